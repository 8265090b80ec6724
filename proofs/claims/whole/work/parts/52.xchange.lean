/-! the class: the change -/
def Ch (s : Mem) (c : Int × Int × Int) : Prop := rI s 79 3 = c.1 ∧ rI s 79 4 = c.2.1 ∧ rI s 79 5 = c.2.2
abbrev PCg : Nat → Nat → Prop := fun a k => 35 ≤ a ∧ a ≤ 41 ∨ a = 79 ∧ (k = 3 ∨ k = 4 ∨ k = 5)
theorem PTr_Cg : ∀ a k, PTr a k → PCg a k := fun a k h => Or.inl h
theorem PCg33 : ∀ a k, PCg a k → 33 ≤ a := fun a k h => by unfold PCg at h; omega
theorem Ch.fr {s s' : Mem} {c : Int × Int × Int} {P : Nat → Nat → Prop} (h : Ch s c) (hf : Fr P s s') (hp : ∀ a k, P a k → a ≠ 79) : Ch s' c := ⟨(hf.i (fun q => hp _ _ q rfl)).trans h.1, (hf.i (fun q => hp _ _ q rfl)).trans h.2.1, (hf.i (fun q => hp _ _ q rfl)).trans h.2.2⟩
section XCH
variable {T : Tab} {w : Nat → Int}
/-- one pair -/
theorem x_pair (D : Nat) {s : Mem} {n a b : Nat} {c : Int × Int × Int} (hx : XM s T w) (ht : Tf T) (hw : Wf T w) (hn : n ≤ 999) (hn2 : w 0 + n ≤ 999) (ha : a < tG T) (hb : b < tG T) (hab : a ≠ b) (hc : Ch s c) (hr : 0 ≤ c.2.2 ∧ c.2.2 ≤ 1000000) : ∃ s1, L_Pl_seekChange_71 (D + 6) 28 (n : Int) (a : Int) (b : Int) s = L_Pl_seekChange_71 (D + 6) 28 (n : Int) (a : Int) ((b + 1 : Nat) : Int) s1 ∧ Fr PCg s s1 ∧ XM s1 T w ∧ Ch s1 (if (bns T n (wex w a b) : Int) < c.2.2 then ((a : Int), (b : Int), (bns T n (wex w a b) : Int)) else c) := by
  have hg := ht.2.2.1
  have hg1 : rI s (rQ s 28 0) 2 = (tG T : Int) := hx.1.g
  have hse := wex_se hw ha hb hab
  have hw2 := hw.se hse
  obtain ⟨s1, e1, f1, x1⟩ := x_copy (D + 5) hx.1 hg
  have s28 : ∀ k, k < tG T → rI s1 29 k = w (10 + 2 * k) := fun k hk => (f1.i (by unfold PC; omega)).trans (hx.1.2.2.2.2.1 k hk)
  have f2 : Fr (fun a _ => a = 35 + 1) s1 (wI (wI s1 36 a (w (10 + 2 * b))) 36 b (w (10 + 2 * a))) := (Fr.rf.w (P := fun a _ => a = 35 + 1) rfl).w rfl
  have hs2 : ∀ k, k < tG T → rI (wI (wI s1 36 a (w (10 + 2 * b))) 36 b (w (10 + 2 * a))) (35 + 1) k = wex w a b (10 + 2 * k) := fun k hk => by
    rw [wex_at (T := T) hab, rI_wI, rI_wI]
    by_cases h1 : k = b
    · rw [if_pos ⟨rfl, h1⟩, if_neg (by omega), if_pos h1]
    · rw [if_neg (by omega), if_neg h1]
      by_cases h2 : k = a
      · rw [if_pos ⟨rfl, h2⟩, if_pos h2]
      · rw [if_neg (by omega), if_neg h2]
        exact x1.2.2.2.2.1 k hk
  obtain ⟨s2, e2, f3, x2⟩ := x_reseat (D + 5) x1 ht hw f2 hs2 hse
  have f3b : Fr PTr s1 s2 := f3.mo (fun a k q => by unfold PTr; omega)
  have hc2 : Ch s2 c := (hc.fr f1 (fun a k q => by unfold PC at q; omega)).fr f3 (fun a k q => by omega)
  obtain ⟨s3, r, e3, f4, c1, c2, c3⟩ := x_go D (n := n) (most := c.2.2 - 1) x2 ht hw2 hn (by rw [hse.1]; exact hn2)
  have hc3 : Ch s3 c := hc2.fr f4 (fun a k q => by unfold PP at q; omega)
  have ff : Fr PTr s s3 := ((f1.mo PC_Tr).tr f3b).tr (f4.mo PP_Tr)
  have key : L_Pl_seekChange_71 (D + 6) 28 (n : Int) (a : Int) (b : Int) s = if r < c.2.2 then L_Pl_seekChange_71 (D + 6) 28 (n : Int) (a : Int) ((b + 1 : Nat) : Int) (wI (wI (wI s3 79 3 (a : Int)) 79 4 (b : Int)) 79 5 r) else L_Pl_seekChange_71 (D + 6) 28 (n : Int) (a : Int) ((b + 1 : Nat) : Int) s3 := by
    rw [e_Pl_seekChange_71, hg1, if_pos (by omega), if_pos (by omega), e1, Option.bind_some]
    simp only []
    rw [inB_n (by omega), inB_n (by omega), inB_n (by omega), inB_n (by omega), Int.toNat_natCast, Int.toNat_natCast, show (28 : Nat) + 1 = 29 from rfl, s28 b hb, rI_other _ _ _ _ (by omega), s28 a ha, e2, Option.bind_some]
    simp only []
    rw [hc2.2.2, w32_i (z := c.2.2 - 1) (by omega) (by omega), e3, Option.bind_some, w32_s (by omega)]
    simp only []
    rw [hc3.2.2]
  rw [key]
  by_cases hlt : (bns T n (wex w a b) : Int) < c.2.2
  · obtain ⟨hr2, -⟩ := c1 (by omega)
    have f5 : Fr PCg s3 (wI (wI (wI s3 79 3 (a : Int)) 79 4 (b : Int)) 79 5 r) := ((Fr.rf.w (by unfold PCg; omega)).w (by unfold PCg; omega)).w (by unfold PCg; omega)
    rw [if_pos (by omega), if_pos hlt]
    refine ⟨_, rfl, (ff.mo PTr_Cg).tr f5, (hx.fr ff PTr33).fr f5 PCg33, ?_, ?_, ?_⟩
    · rw [rI_other _ _ _ _ (by omega), rI_other _ _ _ _ (by omega), rI_same]
    · rw [rI_other _ _ _ _ (by omega), rI_same]
    · rw [rI_same, hr2]
  · have := c2 (by omega)
    rw [if_neg (by omega), if_neg hlt]
    exact ⟨s3, rfl, ff.mo PTr_Cg, hx.fr ff PTr33, hc3⟩
theorem x_ch71 (D : Nat) {n a : Nat} (ht : Tf T) (hw : Wf T w) (hn : n ≤ 999) (hn2 : w 0 + n ≤ 999) (ha : a < tG T) : ∀ (j b : Nat) (c : Int × Int × Int) (s : Mem), a < b → (b + j = tG T ∨ j = 0 ∧ tG T ≤ b) → XM s T w → Ch s c → (0 ≤ c.2.2 ∧ c.2.2 ≤ 1000000) → ∃ s1, L_Pl_seekChange_71 (D + 6) 28 (n : Int) (a : Int) (b : Int) s = L_Pl_seekChange_49 (D + 6) 28 (n : Int) ((a + 1 : Nat) : Int) s1 ∧ Fr PCg s s1 ∧ XM s1 T w ∧ Ch s1 (chB T n w a j b c) ∧ (0 ≤ (chB T n w a j b c).2.2 ∧ (chB T n w a j b c).2.2 ≤ 1000000)
  | 0, b, c, s, hab, hj, hx, hc, hr => by
    have hg := ht.2.2.1
    rw [e_Pl_seekChange_71, hx.1.g, if_neg (by omega), w32_s (by omega)]
    exact ⟨s, rfl, Fr.rf, hx, hc, hr⟩
  | j + 1, b, c, s, hab, hj, hx, hc, hr => by
    have hg := ht.2.2.1
    have hb := bns_le hg n (wex w a b)
    obtain ⟨s1, e1, f1, x1, c1⟩ := x_pair D (a := a) (b := b) hx ht hw hn hn2 ha (by omega) (by omega) hc hr
    obtain ⟨s2, e2, f2, x2, c2, c3⟩ := x_ch71 D ht hw hn hn2 ha j (b + 1) _ s1 (by omega) (by omega) x1 c1 (by
      split
      · exact ⟨by simp only []; omega, by simp only []; omega⟩
      · exact hr)
    exact ⟨s2, e1.trans e2, f1.tr f2, x2, c2, c3⟩
theorem x_ch49 (D : Nat) {n : Nat} (ht : Tf T) (hw : Wf T w) (hn : n ≤ 999) (hn2 : w 0 + n ≤ 999) : ∀ (j a : Nat) (c : Int × Int × Int) (s : Mem), a + j = tG T → XM s T w → Ch s c → (0 ≤ c.2.2 ∧ c.2.2 ≤ 1000000) → ∃ s1, L_Pl_seekChange_49 (D + 6) 28 (n : Int) (a : Int) s = some (0, s1) ∧ Fr PCg s s1 ∧ Ch s1 (chA T n w j a c)
  | 0, a, c, s, hj, hx, hc, hr => by
    rw [e_Pl_seekChange_49, hx.1.g, if_neg (by omega)]
    exact ⟨s, rfl, Fr.rf, hc⟩
  | j + 1, a, c, s, hj, hx, hc, hr => by
    have hg := ht.2.2.1
    obtain ⟨s1, e1, f1, x1, c1, c2⟩ := x_ch71 D (n := n) (a := a) ht hw hn hn2 (by omega) (tG T - (a + 1)) (a + 1) c s (by omega) (by omega) hx hc hr
    obtain ⟨s2, e2, f2, c3⟩ := x_ch49 D ht hw hn hn2 j (a + 1) _ s1 (by omega) x1 c1 c2
    refine ⟨s2, ?_, f1.tr f2, c3⟩
    rw [e_Pl_seekChange_49, hx.1.g, if_pos (by omega), if_pos (by omega), w32_s (by omega), e1]
    exact e2
abbrev PCh : Nat → Nat → Prop := fun a k => 35 ≤ a ∧ a ≤ 41 ∨ a = 79 ∧ (k = 1 ∨ k = 3 ∨ k = 4 ∨ k = 5)
theorem PTr_Ch : ∀ a k, PTr a k → PCh a k := fun a k h => Or.inl h
theorem PCh33 : ∀ a k, PCh a k → 33 ≤ a := fun a k h => by unfold PCh at h; omega
theorem PCg_Ch : ∀ a k, PCg a k → PCh a k := fun a k h => by unfold PCg at h; unfold PCh; omega
/-- what is known of the change -/
def ChC (s : Mem) (T : Tab) (w : Nat → Int) : Prop := rI s 79 1 = 0 ∨ ∃ n : Nat, rI s 79 1 = (n : Int) ∧ 1 ≤ n ∧ Ch s (chS T n w)
theorem x_seekChange (D : Nat) {s : Mem} {n : Nat} (hx : XM s T w) (ht : Tf T) (hw : Wf T w) (h1 : 1 ≤ n) (hn : n ≤ 999) (hn2 : w 0 + n ≤ 999) (hc : ChC s T w) : ∃ s1, f_Pl_seekChange (D + 7) 28 (n : Int) s = some (0, s1) ∧ Fr PCh s s1 ∧ Ch s1 (chS T n w) ∧ ChC s1 T w := by
  have hg := ht.2.2.1
  rw [e_Pl_seekChange]
  by_cases he : rI s 79 1 = (n : Int)
  · rw [if_pos he]
    rcases hc with h0 | ⟨m, h2, h3, h4⟩
    · omega
    · have : m = n := by omega
      subst this
      exact ⟨s, rfl, Fr.rf, h4, Or.inr ⟨m, h2, h3, h4⟩⟩
  · have f0 : Fr PCh s (wI s 79 1 (n : Int)) := Fr.rf.w (by unfold PCh; omega)
    have x0 := hx.fr f0 PCh33
    obtain ⟨s1, e1, f1, x1⟩ := x_copy (D + 5) x0.1 hg
    have f2 : Fr (fun a k => a = 79 ∧ (k = 3 ∨ k = 4)) s1 (wI (wI s1 79 3 (-1)) 79 4 (-1)) := (Fr.rf.w (by omega)).w (by omega)
    obtain ⟨s3, r, e3, f3, c1, -, -⟩ := x_go D (n := n) (most := 1000000) (x1.fr f2 (fun a k q => by omega)) ht hw hn hn2
    have hb := bns_le hg n w
    obtain ⟨hr, -⟩ := c1 (by omega)
    have f4 : Fr (fun a k => a = 79 ∧ k = 5) s3 (wI s3 79 5 r) := Fr.rf.w ⟨rfl, rfl⟩
    have ff : Fr PCh s (wI s3 79 5 r) := (((f0.tr ((f1.mo PC_Tr).mo PTr_Ch)).tr (f2.mo (fun a k q => by unfold PCh; omega))).tr ((f3.mo PP_Tr).mo PTr_Ch)).tr (f4.mo (fun a k q => by unfold PCh; omega))
    obtain ⟨s5, e5, f5, c5⟩ := x_ch49 D (n := n) ht hw hn hn2 (tG T) 0 (-1, -1, (bns T n w : Int)) (wI s3 79 5 r) (by omega) (hx.fr ff PCh33) ⟨by rw [f4.i (by omega), f3.i (by unfold PP; omega), rI_other _ _ _ _ (by omega), rI_same], by rw [f4.i (by omega), f3.i (by unfold PP; omega), rI_same], by rw [rI_same, hr]⟩ (by simp only []; omega)
    rw [if_neg he, e1, Option.bind_some]
    simp only []
    rw [e3, Option.bind_some]
    refine ⟨s5, e5, ff.tr (f5.mo PCg_Ch), c5, Or.inr ⟨n, ?_, h1, c5⟩⟩
    rw [f5.i (by unfold PCg; omega), f4.i (by omega), f3.i (by unfold PP; omega), f2.i (by omega), f1.i (by unfold PC; omega), rI_same]
def sChange (T : Tab) (w : Nat → Int) (a b : Int) : Int := if cpc w a 1 30 then (if b = 0 then (chS T a.toNat w).1 else if b = 1 then (chS T a.toNat w).2.1 else if b = 2 then (chS T a.toNat w).2.2 else -1) else -1
theorem x_change (D : Nat) {s : Mem} (hx : XM s T w) (ht : Tf T) (hw : Wf T w) (hc : ChC s T w) (a b : Int) : ∃ s1, f_X_change (D + 8) a b s = some (sChange T w a b, s1) ∧ Fr PCh s s1 ∧ ChC s1 T w := by
  unfold sChange
  rw [e_X_change, x_can (D + 5) hx ht hw a (by omega) (by omega), Option.bind_some]
  simp only []
  by_cases hcp : cpc w a 1 30
  · obtain ⟨n, rfl⟩ := Int.eq_ofNat_of_zero_le (show 0 ≤ a by have := hcp.1; omega)
    have h1 := hcp.1
    have h2 := hcp.2
    rw [if_pos hcp, if_pos hcp, if_neg (by omega), Int.toNat_natCast]
    by_cases b1 : b < 0
    · rw [if_pos b1, if_neg (by omega), if_neg (by omega), if_neg (by omega)]
      exact ⟨s, rfl, Fr.rf, hc⟩
    · rw [if_neg b1]
      by_cases b2 : 2 < b
      · rw [if_pos b2, if_neg (by omega), if_neg (by omega), if_neg (by omega)]
        exact ⟨s, rfl, Fr.rf, hc⟩
      · obtain ⟨s1, e1, f1, c1, c2⟩ := x_seekChange D (n := n) hx ht hw (by omega) (by omega) (by omega) hc
        rw [if_neg b2, e1, Option.bind_some]
        simp only []
        refine ⟨s1, ?_, f1, c2⟩
        rw [c1.1, c1.2.1, c1.2.2]
        by_cases b3 : b = 0
        · rw [if_pos b3, if_pos b3]
        · rw [if_neg b3, if_neg b3]
          by_cases b4 : b = 1
          · rw [if_pos b4, if_pos b4]
          · rw [if_neg b4, if_neg b4, if_pos (by omega)]
  · rw [if_neg hcp, if_neg hcp, if_pos rfl]
    exact ⟨s, rfl, Fr.rf, hc⟩
end XCH
