/-! the class's minute -/
theorem who_c {w w' : Nat → Int} {g : Nat} (h : ∀ k, k < g → w' (10 + 2 * k) = w (10 + 2 * k)) (q : Int) : who w' g q = who w g q := by
  have key : ∀ j k, k + j ≤ g → whoF w' q j k = whoF w q j k := by
    intro j
    induction j with
    | zero => intro k _; rfl
    | succ j ih =>
      intro k hk
      unfold whoF
      rw [h k (by omega), ih (k + 1) (by omega)]
  exact key g 0 (by omega)
theorem HB.c {h : Int} {w w' : Nat → Int} (hb : HB h w) (he : ∀ q, q < 9 → w' (1 + q) = w (1 + q)) : HB h w' := by
  obtain ⟨a, h1, h2, h3⟩ := hb
  exact ⟨a, h1, h2, fun q hq => (h3 q hq).trans (he q hq).symm⟩
/-- w and w' are alike but for the swells -/
def Sw (T : Tab) (w w' : Nat → Int) : Prop := w' 0 = w 0 ∧ (∀ q, q < 9 → w' (1 + q) = w (1 + q)) ∧ ∀ k, k < tG T → w' (10 + 2 * k) = w (10 + 2 * k)
theorem Sw.rf {T : Tab} {w : Nat → Int} : Sw T w w := ⟨rfl, fun _ _ => rfl, fun _ _ => rfl⟩
theorem Sw.tr {T : Tab} {w w1 w2 : Nat → Int} (h : Sw T w w1) (h2 : Sw T w1 w2) : Sw T w w2 := ⟨h2.1.trans h.1, fun q hq => (h2.2.1 q hq).trans (h.2.1 q hq), fun k hk => (h2.2.2 k hk).trans (h.2.2 k hk)⟩
theorem Sw.upd {T : Tab} {w : Nat → Int} (k : Nat) (v : Int) : Sw T w (upW w (11 + 2 * k) v) := ⟨upW_o (by omega), fun q hq => upW_o (by omega), fun j hj => upW_o (by omega)⟩
theorem Wf.sw {T : Tab} {w w' : Nat → Int} (h : Wf T w) (hs : Sw T w w') (hr : ∀ k, k < tG T → 0 ≤ w' (11 + 2 * k) ∧ w' (11 + 2 * k) ≤ 99) : Wf T w' := by
  obtain ⟨h1, h2, h3, h4⟩ := h
  obtain ⟨g1, g2, g3⟩ := hs
  refine ⟨by rw [g1]; exact h1, fun q hq => by rw [g2 q hq]; exact h2 q hq, fun k hk => ⟨by rw [g3 k hk]; exact (h3 k hk).1, hr k hk⟩, fun j k hj hk e => ?_⟩
  rw [g3 j hj, g3 k hk] at e
  exact h4 j k hj hk e
theorem XR.sw {s s' : Mem} {o : Nat} {T : Tab} {w w' : Nat → Int} {P : Nat → Nat → Prop} (h : XR s o T w) (hf : Fr P s s') (hp : ∀ a k, P a k → 28 ≤ a ∧ (a < o ∨ o + 5 ≤ a ∨ (a = o ∧ k = 3) ∨ a = o + 2)) (hs : Sw T w w') (hr : ∀ k, k < tG T → rI s' (o + 2) k = w' (11 + 2 * k)) : XR s' o T w' := by
  obtain ⟨h1, h2, h3, h4, h5, h6, h7, h8⟩ := h
  obtain ⟨g1, g2, g3⟩ := hs
  have hn : ∀ a k, (o < a ∧ a < o + 5 ∧ a ≠ o + 2 ∨ a = o ∧ k ≠ 3) → ¬ P a k := fun a k ha q => by have := hp a k q; omega
  refine ⟨h1, ?_, (hf.i (hn _ _ (by omega))).trans (h3.trans g1.symm), ?_, fun k hk => (hf.i (hn _ _ (by omega))).trans ((h5 k hk).trans (g3 k hk).symm), hr, fun k hk => (hf.i (hn _ _ (by omega))).trans (h7 k hk), fun q hq => (hf.i (hn _ _ (by omega))).trans ((h8 q hq).trans (who_c g3 q).symm)⟩
  · rw [hf.q (hn _ _ (by omega))]
    exact h2.fr hf (fun a k q => (hp a k q).1)
  · rw [hf.i (hn _ _ (by omega))]
    exact h4.c g2
theorem cut_r (v : Int) : 0 ≤ cut v ∧ cut v ≤ 99 := by unfold cut; split <;> (try split) <;> omega
theorem swl_at {T : Tab} {w : Nat → Int} {k : Nat} (hk : k < tG T) : swl T w (11 + 2 * k) = cut (w (11 + 2 * k) + valu T w k 0 (tC T 0)) := by
  unfold swl
  rw [if_pos (by omega), show (11 + 2 * k - 11) / 2 = k by omega]
theorem swl_sw {T : Tab} {w : Nat → Int} : Sw T w (swl T w) := ⟨if_neg (by omega), fun q hq => by
  unfold swl
  by_cases e : q = 8
  · subst e
    rw [if_neg (by omega)]
  · rw [if_neg (by omega)], fun k hk => if_neg (by omega)⟩
theorem Wf.swl {T : Tab} {w : Nat → Int} (h : Wf T w) : Wf T (swl T w) := h.sw swl_sw fun k hk => by rw [swl_at hk]; exact cut_r _
theorem spl_sw {T : Tab} {w : Nat → Int} {size q : Int} : Sw T w (spl T w size q) := by
  unfold spl
  split
  · exact Sw.rf
  · exact Sw.upd _ _
theorem Wf.upd {T : Tab} {w : Nat → Int} (h : Wf T w) {k : Nat} {v : Int} (hv : 0 ≤ v ∧ v ≤ 99) : Wf T (upW w (11 + 2 * k) v) := h.sw (Sw.upd k v) fun j hj => by
  by_cases e : j = k
  · rw [e, upW_s]; exact hv
  · rw [upW_o (by omega)]; exact (h.2.2.1 j hj).2
theorem Wf.splW {T : Tab} {w : Nat → Int} (h : Wf T w) {size q : Int} : Wf T (spl T w size q) := by
  unfold spl
  split
  · exact h
  · exact h.upd (cut_r _)
theorem bur_sw {T : Tab} {w : Nat → Int} {k : Nat} : Sw T w (bur T w k) := (Sw.upd k 0).tr (spl_sw.tr spl_sw)
theorem Wf.bur {T : Tab} {w : Nat → Int} (h : Wf T w) {k : Nat} : Wf T (bur T w k) := (h.upd (by omega)).splW.splW
theorem stp_w {T : Tab} : ∀ {j k : Nat} {w : Nat → Int}, Wf T w → Wf T (stp T j k w).1 ∧ Sw T w (stp T j k w).1
  | 0, _, _, h => ⟨h, Sw.rf⟩
  | j + 1, k, w, h => by
    unfold stp
    cases sta T w k
    · exact stp_w h
    · have := stp_w (j := j) (k := k + 1) (h.bur (k := k))
      exact ⟨this.1, bur_sw.tr this.2⟩
theorem mnt_w {T : Tab} {w : Nat → Int} (h : Wf T w) (h0 : w 0 < 1100) : Wf T (mnt T w).1 := by
  obtain ⟨⟨h1, h2, h3, h4⟩, hs⟩ := stp_w (j := tG T) (k := 0) h.swl
  unfold mnt
  refine ⟨?_, fun q hq => ?_, fun k hk => ?_, fun j k hj hk e => ?_⟩
  · simp only []
    rw [upW_s]
    have := h.1
    omega
  · simp only []
    rw [upW_o (by omega)]; exact h2 q hq
  · simp only []
    rw [upW_o (by omega), upW_o (by omega)]; exact h3 k hk
  · simp only [] at e
    rw [upW_o (by omega), upW_o (by omega)] at e; exact h4 j k hj hk e
theorem mnt_sw {T : Tab} {w : Nat → Int} (h : Wf T w) : (mnt T w).1 0 = w 0 + 1 ∧ (∀ q, q < 9 → (mnt T w).1 (1 + q) = w (1 + q)) ∧ ∀ k, k < tG T → (mnt T w).1 (10 + 2 * k) = w (10 + 2 * k) := by
  obtain ⟨-, hs⟩ := stp_w (j := tG T) (k := 0) h.swl
  have hs2 := swl_sw.tr hs
  unfold mnt
  simp only []
  refine ⟨upW_s _ _ _, fun q hq => ?_, fun k hk => ?_⟩
  · rw [upW_o (by omega)]; exact hs2.2.1 q hq
  · rw [upW_o (by omega)]; exact hs2.2.2 k hk
/-- how many bits -/
def pcn : Nat → Nat → Nat
  | 0, _ => 0
  | f + 1, a => a % 2 + pcn f (a / 2)
theorem or_tab : ∀ k : Fin 10, ∀ a : Fin 1024, a.val < 2 ^ k.val → a.val ||| 2 ^ k.val = a.val + 2 ^ k.val ∧ pcn 10 (a.val + 2 ^ k.val) = pcn 10 a.val + 1 := by decide +kernel
theorem or_p {k a : Nat} (hk : k < 10) (ha : a < 2 ^ k) : a ||| 2 ^ k = a + 2 ^ k ∧ pcn 10 (a + 2 ^ k) = pcn 10 a + 1 := by
  have h2 : 2 ^ k ≤ 2 ^ 10 := Nat.pow_le_pow_right (by omega) (by omega)
  exact or_tab ⟨k, hk⟩ ⟨a, by omega⟩ ha
theorem bc_tab : ∀ a : Fin 1024, (iAnd (w32 ((w32 ((iAnd (w32 ((w32 ((iAnd (w32 (((a.val : Nat) : Int) - (iAnd (iUshr ((a.val : Nat) : Int) 1) 1431655765))) 858993459) + (iAnd (iUshr (w32 (((a.val : Nat) : Int) - (iAnd (iUshr ((a.val : Nat) : Int) 1) 1431655765))) 2) 858993459))) + (iUshr (w32 ((iAnd (w32 (((a.val : Nat) : Int) - (iAnd (iUshr ((a.val : Nat) : Int) 1) 1431655765))) 858993459) + (iAnd (iUshr (w32 (((a.val : Nat) : Int) - (iAnd (iUshr ((a.val : Nat) : Int) 1) 1431655765))) 2) 858993459))) 4))) 252645135) + (iUshr (iAnd (w32 ((w32 ((iAnd (w32 (((a.val : Nat) : Int) - (iAnd (iUshr ((a.val : Nat) : Int) 1) 1431655765))) 858993459) + (iAnd (iUshr (w32 (((a.val : Nat) : Int) - (iAnd (iUshr ((a.val : Nat) : Int) 1) 1431655765))) 2) 858993459))) + (iUshr (w32 ((iAnd (w32 (((a.val : Nat) : Int) - (iAnd (iUshr ((a.val : Nat) : Int) 1) 1431655765))) 858993459) + (iAnd (iUshr (w32 (((a.val : Nat) : Int) - (iAnd (iUshr ((a.val : Nat) : Int) 1) 1431655765))) 2) 858993459))) 4))) 252645135) 8))) + (iUshr (w32 ((iAnd (w32 ((w32 ((iAnd (w32 (((a.val : Nat) : Int) - (iAnd (iUshr ((a.val : Nat) : Int) 1) 1431655765))) 858993459) + (iAnd (iUshr (w32 (((a.val : Nat) : Int) - (iAnd (iUshr ((a.val : Nat) : Int) 1) 1431655765))) 2) 858993459))) + (iUshr (w32 ((iAnd (w32 (((a.val : Nat) : Int) - (iAnd (iUshr ((a.val : Nat) : Int) 1) 1431655765))) 858993459) + (iAnd (iUshr (w32 (((a.val : Nat) : Int) - (iAnd (iUshr ((a.val : Nat) : Int) 1) 1431655765))) 2) 858993459))) 4))) 252645135) + (iUshr (iAnd (w32 ((w32 ((iAnd (w32 (((a.val : Nat) : Int) - (iAnd (iUshr ((a.val : Nat) : Int) 1) 1431655765))) 858993459) + (iAnd (iUshr (w32 (((a.val : Nat) : Int) - (iAnd (iUshr ((a.val : Nat) : Int) 1) 1431655765))) 2) 858993459))) + (iUshr (w32 ((iAnd (w32 (((a.val : Nat) : Int) - (iAnd (iUshr ((a.val : Nat) : Int) 1) 1431655765))) 858993459) + (iAnd (iUshr (w32 (((a.val : Nat) : Int) - (iAnd (iUshr ((a.val : Nat) : Int) 1) 1431655765))) 2) 858993459))) 4))) 252645135) 8))) 16))) 63) = ((pcn 10 a.val : Nat) : Int) := by decide +kernel
theorem x_bc (D : Nat) {a : Nat} (ha : a < 1024) (s : Mem) : f_Integer_bitCount (D + 1) (a : Int) s = some (((pcn 10 a : Nat) : Int), s) := by
  rw [e_Integer_bitCount]
  exact congrArg (fun z => some (z, s)) (bc_tab ⟨a, ha⟩)
/-- which are told in a list of bursts -/
def bin1 (i : Nat) (r : List (Nat × Int × Int)) : Bool := r.any (fun q => q.1 == i)
theorem bit_tab : ∀ k : Fin 7, ∀ a : Fin 128, ∀ i : Fin 7, a.val < 2 ^ k.val → ((a.val + 2 ^ k.val) / 2 ^ i.val % 2 = 1 ↔ (a.val / 2 ^ i.val % 2 = 1 ∨ k = i)) := by decide +kernel
abbrev PS (o : Nat) : Nat → Nat → Prop := fun a _ => a = o + 2 ∨ a = o + 5 ∨ a = o + 6
abbrev PT (o : Nat) : Nat → Nat → Prop := fun a k => a = o + 2 ∨ a = o + 5 ∨ a = o + 6 ∨ a = o ∧ k = 3
abbrev PP (o : Nat) : Nat → Nat → Prop := fun a k => a = o + 2 ∨ a = o + 5 ∨ a = o + 6 ∨ a = o ∧ (k = 1 ∨ k = 3)
theorem PX_PS {o : Nat} : ∀ a k, PX o a k → PS o a k := fun a k h => Or.inr (Or.inr h)
theorem PS_PT {o : Nat} : ∀ a k, PS o a k → PT o a k := fun a k h => by unfold PS at h; unfold PT; omega
theorem PT_PP {o : Nat} : ∀ a k, PT o a k → PP o a k := fun a k h => by unfold PT at h; unfold PP; omega
section XPASS
variable {o : Nat} {T : Tab} {w : Nat → Int}
theorem x_swell2 (D : Nat) (ht : Tf T) (hw : Wf T w) : ∀ (j b : Nat) (s : Mem), b + j = tG T → XR s o T w → (∀ i, i < b → rI s (o + 5) i = swl T w (11 + 2 * i)) → ∃ s1, L_Rg_swellAll_2 (D + 3) o (b : Int) s = L_Rg_swellAll_72 (D + 3) o s1 ∧ Fr (PS o) s s1 ∧ XR s1 o T w ∧ ∀ i, i < tG T → rI s1 (o + 5) i = swl T w (11 + 2 * i)
  | 0, b, s, hb, hx, hi => by
    rw [e_Rg_swellAll_2, hx.g, if_neg (by omega)]
    exact ⟨s, rfl, Fr.rf, hx, fun i h => hi i (by omega)⟩
  | j + 1, b, s, hb, hx, hi => by
    have hg := ht.2.2.1
    have ho := hx.1
    have hT := hx.2.1.1
    obtain ⟨s1, e1, f1, r1, -⟩ := x_value D (k := b) (size := 0) hx ht hw (by omega) (by omega) (show rQ s o 0 + 5 < 27 by omega) hx.2.1.2.2.2.2.1 ht.2.2.2.2.1
    have hx1 : XR s1 o T w := hx.fr f1 (fun a k q => by unfold PX at q; omega)
    have hv := (hw.2.2.1 b (by omega)).2
    have key : ∃ s2, L_Rg_swellAll_2 (D + 3) o (b : Int) s = L_Rg_swellAll_2 (D + 3) o ((b + 1 : Nat) : Int) s2 ∧ s2 = wI s1 (o + 5) b (swl T w (11 + 2 * b)) := by
      refine ⟨_, ?_, rfl⟩
      rw [swl_at (by omega), e_Rg_swellAll_2, hx.g, if_pos (by omega), if_pos (by omega), inB_n (by omega), e1]
      show (if w32 (rI s (o + 2) (b : Int).toNat + valu T w b 0 (tC T 0)) < 0 then _ else _) = _
      rw [Int.toNat_natCast, hx.2.2.2.2.2.1 b (by omega), w32_i (by omega) (by omega), inB_n (by omega), inB_n (by omega), inB_n (by omega), w32_s (by omega)]
      unfold cut
      by_cases a1 : w (11 + 2 * b) + valu T w b 0 (tC T 0) < 0
      · rw [if_pos a1, if_pos a1]
      · rw [if_neg a1, if_neg a1]
        by_cases a2 : 99 < w (11 + 2 * b) + valu T w b 0 (tC T 0)
        · rw [if_pos a2, if_pos a2]
        · rw [if_neg a2, if_neg a2]
    obtain ⟨s2, e2, rfl⟩ := key
    have f2 : Fr (PS o) s (wI s1 (o + 5) b (swl T w (11 + 2 * b))) := (f1.mo PX_PS).w (Or.inr (Or.inl rfl))
    obtain ⟨s3, e3, f3, hx3, h3⟩ := x_swell2 D ht hw j (b + 1) _ (by omega) (hx1.fr (P := fun a _ => a = o + 5) (Fr.rf.w rfl) (fun a k q => by omega)) (fun i hi2 => by
      by_cases e : i = b
      · rw [e, rI_same]
      · rw [rI_other _ _ _ _ (by omega), f1.i (by unfold PX; omega)]
        exact hi i (by omega))
    exact ⟨s3, e2.trans e3, f2.tr f3, hx3, h3⟩
theorem x_min (D : Nat) (a b : Int) (s : Mem) : f_Math_min (D + 1) a b s = some (if b < a then b else a, s) := by
  rw [e_Math_min]
  split <;> rfl
theorem x_max (D : Nat) (a b : Int) (s : Mem) : f_Math_max (D + 1) a b s = some (if a < b then b else a, s) := by
  rw [e_Math_max]
  split <;> rfl
theorem x_swellAll (D : Nat) {s : Mem} (hx : XR s o T w) (ht : Tf T) (hw : Wf T w) : ∃ s1, f_Rg_swellAll (D + 4) o s = some (0, s1) ∧ Fr (PS o) s s1 ∧ XR s1 o T (swl T w) := by
  have hg := ht.2.2.1
  have ho := hx.1
  obtain ⟨s1, e1, f1, h1, h2⟩ := x_swell2 D ht hw (tG T) 0 s (by omega) hx (fun i hi => by omega)
  have hm : (if (7 : Int) < (tG T : Int) then (7 : Int) else (tG T : Int)) = (tG T : Int) := if_neg (by omega)
  have e2 : f_Rg_swellAll (D + 4) o s = some (0, cpI s1 (o + 5) 0 (o + 2) 0 (tG T)) := by
    rw [show f_Rg_swellAll (D + 4) o s = L_Rg_swellAll_2 (D + 3) o ((0 : Nat) : Int) s from e_Rg_swellAll (D + 3) o s, e1, e_Rg_swellAll_72, h1.g, x_min, Option.bind_some]
    simp only [hm]
    rw [if_pos (by omega), Int.toNat_natCast]
  have f2 : Fr (fun a _ => a = o + 2) s1 (cpI s1 (o + 5) 0 (o + 2) 0 (tG T)) := Fr.rf.cp (fun _ => rfl)
  refine ⟨_, e2, f1.tr (f2.mo (fun a k h => Or.inl h)), h1.sw f2 (fun a k q => by omega) swl_sw (fun k hk => ?_)⟩
  rw [rI_cpI, if_pos ⟨rfl, by omega, by omega⟩, Nat.sub_zero, Nat.zero_add]
  exact h2 k hk
/-- what is spilt on one side -/
theorem x_side (D : Nat) {s : Mem} {k : Nat} {e : Int} {size : Int} (hx : XR s o T w) (ht : Tf T) (hw : Wf T w) (hk : k < tG T) (hs : 0 ≤ size ∧ size ≤ 99) (he : e = -1 ∨ e = 1) : ∃ s1, L_Rg_spill_27 (D + 3) o (k : Int) size e s = L_Rg_spill_27 (D + 3) o (k : Int) size (e + 2) s1 ∧ Fr (PS o) s s1 ∧ XR s1 o T (spl T w size (w (10 + 2 * k) + e)) := by
  have hg := ht.2.2.1
  have hn := ht.2.1
  have hn3 := ht.1
  have ho := hx.1
  have hT := hx.2.1.1
  have hse := (hw.2.2.1 k hk).1
  have hr := trn_r (n := tN T) (q := w (10 + 2 * k) + e) (by omega) (by omega)
  have l77 : L_Rg_spill_27 (D + 3) o (k : Int) size e s = L_Rg_spill_77 (D + 3) o (k : Int) size e (trn (tN T) (w (10 + 2 * k) + e)) s := by
    rw [e_Rg_spill_27, if_neg (by omega), inB_n (by omega), Int.toNat_natCast, hx.2.2.2.2.1 k hk, hx.n, w32_i (by omega) (by omega), w32_i (by omega) (by omega)]
    unfold trn
    by_cases a1 : w (10 + 2 * k) + e < 0
    · rw [if_pos a1, if_pos a1, show (tN T : Int) - 1 = w (10 + 2 * k) + e + (tN T : Int) by omega]
    · rw [if_neg a1, if_neg a1]
      by_cases a2 : w (10 + 2 * k) + e < (tN T : Int)
      · rw [if_pos a2, if_pos a2]
      · rw [if_neg a2, if_neg a2, show (0 : Int) = w (10 + 2 * k) + e - (tN T : Int) by omega]
  have l102 : ∀ f : Int, 0 ≤ f → f < 9 → L_Rg_spill_77 (D + 3) o (k : Int) size e f s = L_Rg_spill_102 (D + 3) o (k : Int) size e (who w (tG T) f) s := fun f h0 h1 => by
    obtain ⟨j, rfl⟩ := Int.eq_ofNat_of_zero_le h0
    rw [e_Rg_spill_77, if_neg (by omega), if_pos h1, inB_n (by omega), Int.toNat_natCast, hx.2.2.2.2.2.2.2 j (by omega)]
  rw [l77, l102 _ hr.1 (by omega)]
  unfold spl
  rcases who_or w (tG T) (trn (tN T) (w (10 + 2 * k) + e)) with ⟨h1, -⟩ | ⟨i, h2, h3, -⟩
  · rw [h1, if_pos rfl, e_Rg_spill_102, if_pos (by omega), w32_i (by omega) (by omega)]
    exact ⟨s, rfl, Fr.rf, hx⟩
  · have hv := (hw.2.2.1 i h2).2
    obtain ⟨s1, e1, f1, r1, -⟩ := x_value D (k := i) (size := size) hx ht hw h2 (by omega) (show rQ s o 0 + 9 < 27 by omega) hx.2.1.2.2.2.2.2.2 ht.2.2.2.2.2.2
    have hx1 : XR s1 o T w := hx.fr f1 (fun a k q => by unfold PX at q; omega)
    have hv1 : rI s1 (o + 2) i = w (11 + 2 * i) := hx1.2.2.2.2.2.1 i h2
    rw [h3, if_neg (by omega), Int.toNat_natCast, e_Rg_spill_102, if_neg (by omega), if_pos (by omega), e1, Option.bind_some]
    generalize valu T w i size (tC T 2) = v at r1 ⊢
    have l150 : ∀ h : Int, h = (if v < 0 then 0 else v) → L_Rg_spill_150 (D + 3) o (k : Int) size e (i : Int) (w (11 + 2 * i)) h s1 = L_Rg_spill_27 (D + 3) o (k : Int) size (e + 2) (wI s1 (o + 2) i (cut (w (11 + 2 * i) + cut v))) := fun h hh => by
      have hc : (if 99 < w (11 + 2 * i) + h then 99 else w (11 + 2 * i) + h) = cut (w (11 + 2 * i) + cut v) := by
        rw [hh]
        unfold cut
        repeat' split
        all_goals omega
      have hh2 : 0 ≤ h ∧ h ≤ 1000000 := by rw [hh]; split <;> omega
      rw [← hc, e_Rg_spill_150, w32_i (by omega) (by omega), inB_n (by omega), inB_n (by omega), w32_i (by omega) (by omega), Int.toNat_natCast]
      split <;> rfl
    refine ⟨wI s1 (o + 2) i (cut (w (11 + 2 * i) + cut v)), ?_, (f1.mo PX_PS).w (Or.inl rfl), hx1.sw (P := fun a _ => a = o + 2) (Fr.rf.w rfl) (fun a k q => by omega) (Sw.upd _ _) (fun j hj => ?_)⟩
    · show inB (i : Int) 7 (if v < 0 then L_Rg_spill_150 (D + 3) o (k : Int) size e (i : Int) (rI s1 (o + 2) ((i : Int)).toNat) 0 s1 else L_Rg_spill_150 (D + 3) o (k : Int) size e (i : Int) (rI s1 (o + 2) ((i : Int)).toNat) v s1) = _
      rw [inB_n (by omega), Int.toNat_natCast, hv1]
      by_cases a : v < 0
      · rw [if_pos a]; exact l150 0 (by rw [if_pos a])
      · rw [if_neg a]; exact l150 v (by rw [if_neg a])
    · by_cases q : j = i
      · rw [q, rI_same, upW_s]
      · rw [rI_other _ _ _ _ (by omega), upW_o (by omega)]
        exact hx1.2.2.2.2.2.1 j hj
theorem x_spill (D : Nat) {s : Mem} {k : Nat} (hx : XR s o T w) (ht : Tf T) (hw : Wf T w) (hk : k < tG T) : ∃ s1, f_Rg_spill (D + 4) o (k : Int) s = some (0, s1) ∧ Fr (PS o) s s1 ∧ XR s1 o T (bur T w k) := by
  have hg := ht.2.2.1
  have ho := hx.1
  have hv := (hw.2.2.1 k hk).2
  have hx0 : XR (wI s (o + 2) k 0) o T (upW w (11 + 2 * k) 0) := hx.sw (P := fun a _ => a = o + 2) (Fr.rf.w rfl) (fun a k q => by omega) (Sw.upd _ _) (fun j hj => by
    by_cases q : j = k
    · rw [q, rI_same, upW_s]
    · rw [rI_other _ _ _ _ (by omega), upW_o (by omega)]
      exact hx.2.2.2.2.2.1 j hj)
  have hw0 : Wf T (upW w (11 + 2 * k) 0) := hw.upd (by omega)
  obtain ⟨s1, e1, f1, h1⟩ := x_side D (k := k) (e := -1) (size := w (11 + 2 * k)) hx0 ht hw0 hk hv (Or.inl rfl)
  obtain ⟨s2, e2, f2, h2⟩ := x_side D (k := k) (e := 1) (size := w (11 + 2 * k)) h1 ht hw0.splW hk hv (Or.inr rfl)
  have s10 : upW w (11 + 2 * k) 0 (10 + 2 * k) = w (10 + 2 * k) := upW_o (by omega)
  have s11 : spl T (upW w (11 + 2 * k) 0) (w (11 + 2 * k)) (upW w (11 + 2 * k) 0 (10 + 2 * k) + -1) (10 + 2 * k) = w (10 + 2 * k) := ((Sw.upd k 0).tr spl_sw).2.2 k hk
  refine ⟨s2, ?_, ((Fr.rf.w (Or.inl rfl)).tr f1).tr f2, ?_⟩
  · rw [show f_Rg_spill (D + 4) o (k : Int) s = f_Rg_spill (D + 3 + 1) o (k : Int) s from rfl, e_Rg_spill, if_neg (by omega), if_pos (by omega), inB_n (by omega), inB_n (by omega), Int.toNat_natCast, hx.2.2.2.2.2.1 k hk, e1, show (-1 : Int) + 2 = 1 from rfl, e2, e_Rg_spill_27, if_pos (by omega)]
  · rw [s11] at h2
    rw [s10] at h2
    exact h2
theorem x_hooped (D : Nat) {s : Mem} {k : Nat} (hx : XR s o T w) (ht : Tf T) (hw : Wf T w) (hk : k < tG T) : L_Rg_pass_N_11 (D + 4) o (k : Int) s = L_Rg_pass_N_50 (D + 4) o (k : Int) (if w (1 + (w (10 + 2 * k)).toNat) = 1 then 1 else 0) s := by
  have hg := ht.2.2.1
  have hn := ht.2.1
  have hse := (hw.2.2.1 k hk).1
  rw [e_Rg_pass_N_11, hx.g, if_pos (by omega), if_pos (by omega), inB_n (by omega), Int.toNat_natCast, hx.2.2.2.2.1 k hk, x_hoop hx hse.1 (by omega)]
  split <;> rfl
/-- the bursts of a minute, without a log: from guest k on -/
theorem x_bursts (D : Nat) (ht : Tf T) : ∀ (j k : Nat) (w : Nat → Int) (s : Mem) (bb : Nat), k + j = tG T → Wf T w → XR s o T w → rI s o 3 = (bb : Int) → bb < 2 ^ k → ∃ s1 bb1, L_Rg_pass_N_11 (D + 4) o (k : Int) s = L_Rg_pass_N_122 (D + 4) o s1 ∧ Fr (PT o) s s1 ∧ XR s1 o T (stp T j k w).1 ∧ rI s1 o 3 = ((bb1 : Nat) : Int) ∧ bb1 < 2 ^ tG T ∧ pcn 10 bb1 = pcn 10 bb + (stp T j k w).2.length ∧ ∀ i, i < 7 → (bb1 / 2 ^ i % 2 = 1 ↔ bb / 2 ^ i % 2 = 1 ∨ bin1 i (stp T j k w).2 = true)
  | 0, k, w, s, bb, hk, hw, hx, hb, hlt => by
    rw [e_Rg_pass_N_11, hx.g, if_neg (by omega)]
    exact ⟨s, bb, rfl, Fr.rf, hx, hb, by rw [← show k = tG T by omega]; exact hlt, rfl, fun i hi => by simp [stp, bin1]⟩
  | j + 1, k, w, s, bb, hk, hw, hx, hb, hlt => by
    have hg := ht.2.2.1
    have ho := hx.1
    have hT := hx.2.1.1
    have h2k : 2 ^ k < 2 ^ (k + 1) := Nat.pow_lt_pow_right (by omega) (by omega)
    rw [x_hooped D hx ht hw (by omega), e_Rg_pass_N_50]
    unfold stp sta
    by_cases a1 : w (1 + (w (10 + 2 * k)).toNat) = 1
    · rw [if_pos a1, if_neg (by omega), w32_s (by omega), a1]
      exact x_bursts D ht j (k + 1) w s bb (by omega) hw hx hb (by omega)
    · obtain ⟨s1, e1, f1, r1, r2⟩ := x_value (D + 1) (k := k) (size := 0) hx ht hw (by omega) (by omega) (show rQ s o 0 + 7 < 27 by omega) hx.2.1.2.2.2.2.2.1 ht.2.2.2.2.2.1
      have hx1 : XR s1 o T w := hx.fr f1 (fun a k q => by unfold PX at q; omega)
      have hb1 : rI s1 o 3 = (bb : Int) := (f1.i (by unfold PX; omega)).trans hb
      have a1b : (w (1 + (w (10 + 2 * k)).toNat) == 1) = false := by simpa using a1
      rw [if_neg a1, if_pos rfl, e1, Option.bind_some, a1b]
      rcases r2 rfl with a2 | a2
      · rw [a2]
        simp only [if_true, w32_s (show k < 2147483647 by omega)]
        obtain ⟨s2, b2, e2, f2, rest⟩ := x_bursts D ht j (k + 1) w s1 bb (by omega) hw hx1 hb1 (by omega)
        exact ⟨s2, b2, e2, ((f1.mo PX_PS).mo PS_PT).tr f2, rest⟩
      · obtain ⟨o1, o2⟩ := or_p (k := k) (a := bb) (by omega) hlt
        have hp : 2 ^ k ≤ 2 ^ 6 := Nat.pow_le_pow_right (by omega) (by omega)
        have hbb : iOr (rI s1 o 3) (iShl 1 (k : Int)) = ((bb + 2 ^ k : Nat) : Int) := by
          rw [hb1, iShl_1 (by omega), iOr_nat (by omega) (by omega), o1]
        have f3 : Fr (fun a k => a = o ∧ k = 3) s1 (wI s1 o 3 ((bb + 2 ^ k : Nat) : Int)) := Fr.rf.w ⟨rfl, rfl⟩
        have hx2 : XR (wI s1 o 3 ((bb + 2 ^ k : Nat) : Int)) o T w := hx1.fr f3 (fun a k q => by omega)
        obtain ⟨s3, e3, f4, hx3⟩ := x_spill D hx2 ht hw (k := k) (by omega)
        have hb3 : rI s3 o 3 = ((bb + 2 ^ k : Nat) : Int) := by rw [f4.i (by unfold PS; omega), rI_same]
        obtain ⟨s4, b4, e4, f5, g1, g2, g3, g4, g5⟩ := x_bursts D ht j (k + 1) (bur T w k) s3 (bb + 2 ^ k) (by omega) hw.bur hx3 hb3 (by rw [Nat.pow_succ]; omega)
        refine ⟨s4, b4, ?_, ((((f1.mo PX_PS).mo PS_PT).tr (f3.mo (fun a k h => Or.inr (Or.inr (Or.inr h))))).tr (f4.mo PS_PT)).tr f5, ?_, g2, g3, ?_, ?_⟩
        · simp only [a2, Int.reduceEq, if_false, hbb]
          rw [e3, Option.bind_some]
          simp only [w32_s (show k < 2147483647 by omega)]
          exact e4
        · simpa [a2] using g1
        · rw [g4, o2]
          simp [a2]
          omega
        · intro i hi
          rw [g5 i hi]
          have hbt := bit_tab ⟨k, by omega⟩ ⟨bb, by omega⟩ ⟨i, hi⟩ hlt
          simp only [Fin.mk.injEq] at hbt
          rw [hbt]
          simp [a2, bin1, or_assoc]
theorem x_122 (D : Nat) {s : Mem} (hx : XR s o T w) (h0 : 0 ≤ w 0) (h : w 0 < 999) : L_Rg_pass_N_122 D o s = some (0, wI s o 1 (w 0 + 1)) := by
  rw [e_Rg_pass_N_122, hx.2.2.1, if_pos h, w32_i (by omega) (by omega)]
theorem x_tick {s : Mem} (hx : XR s o T w) (v : Int) : XR (wI s o 1 v) o T (upW w 0 v) := by
  have ho := hx.1
  obtain ⟨h1, h2, h3, h4, h5, h6, h7, h8⟩ := hx
  have hf : Fr (fun a k => a = o ∧ k = 1) s (wI s o 1 v) := Fr.rf.w ⟨rfl, rfl⟩
  refine ⟨h1, h2.fr hf (fun a k q => by omega), ?_, ?_, fun k hk => ?_, fun k hk => ?_, fun k hk => ?_, fun q hq => ?_⟩
  · rw [rI_same, upW_s]
  · rw [hf.i (by simp)]
    exact h4.c (fun q hq => upW_o (by omega))
  · rw [hf.i (by simp), h5 k hk, upW_o (by omega)]
  · rw [hf.i (by simp), h6 k hk, upW_o (by omega)]
  · rw [hf.i (by simp), h7 k hk]
  · rw [hf.i (by simp), h8 q hq, who_c (fun k hk => upW_o (by omega))]
/-- a minute without a log -/
theorem x_pass (D : Nat) {s : Mem} (hx : XR s o T w) (ht : Tf T) (hw : Wf T w) (h : w 0 < 999) : ∃ s1 bb, f_Rg_pass_N (D + 5) o s = some (0, s1) ∧ Fr (PP o) s s1 ∧ XR s1 o T (mnt T w).1 ∧ rI s1 o 3 = ((bb : Nat) : Int) ∧ bb < 128 ∧ pcn 10 bb = (mnt T w).2.length ∧ ∀ i, i < 7 → (bb / 2 ^ i % 2 = 1 ↔ bin1 i (mnt T w).2 = true) := by
  have hg := ht.2.2.1
  have ho := hx.1
  obtain ⟨s1, e1, f1, h1⟩ := x_swellAll D hx ht hw
  have f2 : Fr (fun a k => a = o ∧ k = 3) s1 (wI s1 o 3 0) := Fr.rf.w ⟨rfl, rfl⟩
  have h2 : XR (wI s1 o 3 0) o T (swl T w) := h1.fr f2 (fun a k q => by omega)
  obtain ⟨s3, b3, e3, f3, h3, g1, g2, g3, g4⟩ := x_bursts D ht (tG T) 0 (swl T w) _ 0 (by omega) hw.swl h2 (by rw [rI_same]; rfl) (by decide)
  have hsw := (stp_w (j := tG T) (k := 0) hw.swl).2
  have h00 : (stp T (tG T) 0 (swl T w)).1 0 = w 0 := hsw.1.trans (swl_sw (T := T) (w := w)).1
  have hw0 := hw.1
  have hp : 2 ^ tG T ≤ 2 ^ 7 := Nat.pow_le_pow_right (by omega) (by omega)
  refine ⟨wI s3 o 1 (w 0 + 1), b3, ?_, (((f1.mo PS_PT).tr (f2.mo (fun a k h => Or.inr (Or.inr (Or.inr h))))).tr f3 |>.mo PT_PP).w (Or.inr (Or.inr (Or.inr ⟨rfl, Or.inl rfl⟩))), ?_, ?_, by omega, ?_, fun i hi => ?_⟩
  · rw [show f_Rg_pass_N (D + 5) o s = f_Rg_pass_N (D + 4 + 1) o s from rfl, e_Rg_pass_N, e1, Option.bind_some]
    have := x_122 (D + 4) h3 (by rw [h00]; omega) (by rw [h00]; exact h)
    rw [h00] at this
    rw [← this, ← e3]
    rfl
  · exact x_tick h3 _
  · rw [rI_other _ _ _ _ (by omega)]; exact g1
  · rw [g3]; simp [pcn, mnt]
  · rw [g4 i hi]; simp [mnt]
end XPASS
