/-! the class: ahead, hoops, change -/
/-- the class as a whole: its ring, its rules -/
def XM (s : Mem) (T : Tab) (w : Nat → Int) : Prop := XR s 28 T w ∧ rQ s 28 0 = rQ s 0 2
abbrev PTr : Nat → Nat → Prop := fun a _ => 35 ≤ a ∧ a ≤ 41
theorem PC_Tr : ∀ a k, PC a k → PTr a k := fun a k h => by unfold PC at h; unfold PTr; omega
theorem PP_Tr : ∀ a k, PP 35 a k → PTr a k := fun a k h => by unfold PP at h; unfold PTr; omega
abbrev cpc (w : Nat → Int) (n lo hi : Int) : Prop := lo ≤ n ∧ n ≤ hi ∧ w 0 + n ≤ 999
theorem cpc_i (w : Nat → Int) (n lo hi : Int) : cpc w n lo hi ↔ (lo ≤ n ∧ n ≤ hi ∧ w 0 + n ≤ 999) := Iff.rfl
def fbu (T : Tab) (k : Nat) : Nat → Nat → (Nat → Int) → Int
  | 0, _, _ => -1
  | j + 1, n, w => if w 0 < 999 then (if bin1 k (mnt T w).2 then (n : Int) else fbu T k j (n + 1) (mnt T w).1) else -1
def whp (w : Nat → Int) (set : Nat) : Nat → Int := fun i => if 1 ≤ i ∧ i < 10 then ((set / 2 ^ (i - 1) % 2 : Nat) : Int) else w i
def hpk (T : Tab) (n : Nat) (w : Nat → Int) : Nat → Nat → Int → Int
  | 0, _, b => b
  | j + 1, set, b => if (b = -1 ∨ pcn 10 set < pcn 10 b.toNat) ∧ bns T n (whp w set) = 0 then hpk T n w j (set + 1) (set : Int) else hpk T n w j (set + 1) b
/-- two guests change seats -/
def wex (w : Nat → Int) (a b : Nat) : Nat → Int := upW (upW w (10 + 2 * a) (w (10 + 2 * b))) (10 + 2 * b) (w (10 + 2 * a))
def chB (T : Tab) (n : Nat) (w : Nat → Int) (a : Nat) : Nat → Nat → Int × Int × Int → Int × Int × Int
  | 0, _, c => c
  | j + 1, b, c => chB T n w a j (b + 1) (if (bns T n (wex w a b) : Int) < c.2.2 then ((a : Int), (b : Int), (bns T n (wex w a b) : Int)) else c)
def chA (T : Tab) (n : Nat) (w : Nat → Int) : Nat → Nat → Int × Int × Int → Int × Int × Int
  | 0, _, c => c
  | j + 1, a, c => chA T n w j (a + 1) (chB T n w a (tG T - (a + 1)) (a + 1) c)
def chS (T : Tab) (n : Nat) (w : Nat → Int) : Int × Int × Int := chA T n w (tG T) 0 (-1, -1, (bns T n w : Int))
theorem pcn_tab : ∀ a : Fin 512, pcn 10 a.val ≤ 9 := by decide +kernel
theorem Wf.hp {T : Tab} {w : Nat → Int} (h : Wf T w) (set : Nat) : Wf T (whp w set) := by
  obtain ⟨h1, h2, h3, h4⟩ := h
  have e : ∀ i, (i = 0 ∨ 10 ≤ i) → whp w set i = w i := fun i hi => if_neg (by omega)
  refine ⟨by rw [e 0 (by omega)]; exact h1, fun q hq => ?_, fun k hk => by rw [e _ (by omega), e _ (by omega)]; exact h3 k hk, fun j k hj hk => by rw [e _ (by omega), e _ (by omega)]; exact h4 j k hj hk⟩
  unfold whp
  rw [if_pos (by omega)]
  have := Nat.mod_lt (set / 2 ^ (1 + q - 1)) (show 2 > 0 by omega)
  omega
/-- the seats anew, all else as it was -/
def Se (T : Tab) (w w' : Nat → Int) : Prop := w' 0 = w 0 ∧ (∀ q, q < 9 → w' (1 + q) = w (1 + q)) ∧ (∀ k, k < tG T → w' (11 + 2 * k) = w (11 + 2 * k)) ∧ (∀ k, k < tG T → 0 ≤ w' (10 + 2 * k) ∧ w' (10 + 2 * k) < (tN T : Int)) ∧ ∀ j k, j < tG T → k < tG T → w' (10 + 2 * j) = w' (10 + 2 * k) → j = k
theorem Wf.se {T : Tab} {w w' : Nat → Int} (h : Wf T w) (hs : Se T w w') : Wf T w' := by
  obtain ⟨h1, h2, h3, h4⟩ := h
  obtain ⟨g1, g2, g3, g4, g5⟩ := hs
  exact ⟨by rw [g1]; exact h1, fun q hq => by rw [g2 q hq]; exact h2 q hq, fun k hk => ⟨g4 k hk, by rw [g3 k hk]; exact (h3 k hk).2⟩, g5⟩
theorem wex_at {T : Tab} {w : Nat → Int} {a b : Nat} (hab : a ≠ b) (k : Nat) : wex w a b (10 + 2 * k) = if k = a then w (10 + 2 * b) else if k = b then w (10 + 2 * a) else w (10 + 2 * k) := by
  unfold wex upW
  by_cases h1 : k = b
  · rw [if_pos (by omega), if_neg (by omega), if_pos h1]
  · rw [if_neg (by omega)]
    by_cases h2 : k = a
    · rw [if_pos (by omega), if_pos h2]
    · rw [if_neg (by omega), if_neg h2, if_neg h1]
theorem wex_se {T : Tab} {w : Nat → Int} (h : Wf T w) {a b : Nat} (ha : a < tG T) (hb : b < tG T) (hab : a ≠ b) : Se T w (wex w a b) := by
  have o1 : ∀ i, (∀ k, i ≠ 10 + 2 * k) → wex w a b i = w i := fun i hi => by
    unfold wex
    rw [upW_o (hi b), upW_o (hi a)]
  refine ⟨o1 0 (fun k => by omega), fun q hq => ?_, fun k hk => o1 _ (fun j => by omega), fun k hk => ?_, fun j k hj hk e => ?_⟩
  · exact o1 _ (fun k => by omega)
  · rw [wex_at (T := T) hab]
    have ga := (h.2.2.1 a ha).1
    have gb := (h.2.2.1 b hb).1
    have gk := (h.2.2.1 k hk).1
    repeat' split
    all_goals omega
  · rw [wex_at (T := T) hab, wex_at (T := T) hab] at e
    have d := h.2.2.2
    by_cases j1 : j = a
    · rw [if_pos j1] at e
      by_cases k1 : k = a
      · omega
      · rw [if_neg k1] at e
        by_cases k2 : k = b
        · rw [if_pos k2] at e
          have := d b a hb ha e
          omega
        · rw [if_neg k2] at e
          have := d b k hb hk e
          omega
    · rw [if_neg j1] at e
      by_cases j2 : j = b
      · rw [if_pos j2] at e
        by_cases k1 : k = a
        · rw [if_pos k1] at e
          have := d a b ha hb e
          omega
        · rw [if_neg k1] at e
          by_cases k2 : k = b
          · omega
          · rw [if_neg k2] at e
            have := d a k ha hk e
            omega
      · rw [if_neg j2] at e
        by_cases k1 : k = a
        · rw [if_pos k1] at e
          have := d j b hj hb e
          omega
        · rw [if_neg k1] at e
          by_cases k2 : k = b
          · rw [if_pos k2] at e
            have := d j a hj ha e
            omega
          · rw [if_neg k2] at e
            exact d j k hj hk e
section XPLAN
variable {T : Tab} {w : Nat → Int}
theorem x_isG (D : Nat) {s : Mem} (hx : XM s T w) (ht : Tf T) (a : Int) : f_X_isGuest (D + 1) a s = some (if 0 ≤ a ∧ a < (tG T : Int) then 1 else 0, s) := by
  have hg := ht.2.2.1
  have e := hx.1.g
  rw [hx.2] at e
  rw [e_X_isGuest, e]
  split
  · rw [if_neg (by omega)]
  · split
    · rw [if_pos (by omega), if_pos (by omega)]
    · rw [if_neg (by omega)]
theorem x_isS (D : Nat) {s : Mem} (hx : XM s T w) (ht : Tf T) (a : Int) : f_X_isSeat (D + 1) a s = some (if 0 ≤ a ∧ a < (tN T : Int) then 1 else 0, s) := by
  have hn := ht.2.1
  have e := hx.1.n
  rw [hx.2] at e
  rw [e_X_isSeat, e]
  split
  · rw [if_neg (by omega)]
  · split
    · rw [if_pos (by omega), if_pos (by omega)]
    · rw [if_neg (by omega)]
theorem x_has (D : Nat) {s : Mem} (hx : XM s T w) (ht : Tf T) : f_X_hasTable (D + 1) s = some (1, s) := by
  have hn := ht.1
  have e := hx.1.n
  rw [hx.2] at e
  rw [e_X_hasTable, e, if_pos (by omega)]
theorem x_can (D : Nat) {s : Mem} (hx : XM s T w) (ht : Tf T) (hw : Wf T w) (n : Int) {lo hi : Int} (h1 : 0 ≤ lo) (h2 : hi ≤ 1000) : f_X_canCome (D + 2) n lo hi s = some (if cpc w n lo hi then 1 else 0, s) := by
  have h0 := hw.1
  rw [e_X_canCome, x_has D hx ht, Option.bind_some]
  simp only []
  rw [if_neg (by omega), hx.1.2.2.1]
  by_cases a1 : n < lo
  · rw [if_pos a1, if_neg (by rw [cpc_i]; omega)]
  · rw [if_neg a1]
    by_cases a2 : hi < n
    · rw [if_pos a2, if_neg (by rw [cpc_i]; omega)]
    · rw [if_neg a2, w32_i (by omega) (by omega)]
      by_cases a3 : 999 < w 0 + n
      · rw [if_pos a3, if_neg (by rw [cpc_i]; omega)]
      · rw [if_neg a3, if_pos (by rw [cpc_i]; omega)]
/-- ahead: the swell of a guest -/
def sLater (T : Tab) (w : Nat → Int) (a b : Int) : Int := if 0 ≤ a ∧ a < (tG T : Int) then (if cpc w b 0 60 then mns T b.toNat w (11 + 2 * a.toNat) else -1) else -1
theorem XM.fr {s s' : Mem} {P : Nat → Nat → Prop} (h : XM s T w) (hf : Fr P s s') (hp : ∀ a k, P a k → 33 ≤ a) : XM s' T w := ⟨h.1.fr hf (fun a k q => by have := hp a k q; omega), by rw [hf.q (fun q => by have := hp _ _ q; omega), hf.q (fun q => by have := hp _ _ q; omega)]; exact h.2⟩
theorem PTr33 : ∀ a k, PTr a k → 33 ≤ a := fun a k h => by unfold PTr at h; omega
/-- n minutes on the trial ring -/
theorem x_trial (D : Nat) {s : Mem} {n : Int} {lo hi : Int} (hx : XM s T w) (ht : Tf T) (hw : Wf T w) (h1 : 0 ≤ lo) (h2 : hi ≤ 999) (hc : cpc w n lo hi) : ∃ s1 s2, f_Rg_copy (D + 6) 35 28 s = some (0, s1) ∧ f_Rg_goOn_N (D + 6) 35 n 1000000 s1 = some ((bns T n.toNat w : Int), s2) ∧ Fr PTr s s2 ∧ XR s2 35 T (mns T n.toNat w) := by
  have hg := ht.2.2.1
  obtain ⟨m, rfl⟩ := Int.eq_ofNat_of_zero_le (show 0 ≤ n by have := hc.1; omega)
  have hc2 := hc.2.1
  have hc3 := hc.2.2
  obtain ⟨s1, e1, f1, x1⟩ := x_copy (D + 5) hx.1 hg
  obtain ⟨s2, r, e2, f2, c1, -, -⟩ := x_go D (n := m) (most := 1000000) x1 ht hw (by omega) hc3
  have hb := bns_le hg m w
  obtain ⟨rfl, x2⟩ := c1 (by omega)
  exact ⟨s1, s2, e1, e2, (f1.mo PC_Tr).tr (f2.mo PP_Tr), x2⟩
theorem x_later (D : Nat) {s : Mem} (hx : XM s T w) (ht : Tf T) (hw : Wf T w) (a b : Int) : ∃ s1, f_X_later (D + 7) a b s = some (sLater T w a b, s1) ∧ Fr PTr s s1 := by
  have hg := ht.2.2.1
  unfold sLater
  rw [e_X_later, x_isG (D + 5) hx ht, Option.bind_some]
  simp only []
  by_cases ha : 0 ≤ a ∧ a < (tG T : Int)
  · obtain ⟨k, rfl⟩ := Int.eq_ofNat_of_zero_le ha.1
    rw [if_pos ha, if_pos ha, if_neg (by omega), x_can (D + 4) hx ht hw b (by omega) (by omega), Option.bind_some]
    simp only []
    by_cases hc : cpc w b 0 60
    · obtain ⟨s1, s2, e1, e2, f, x2⟩ := x_trial D hx ht hw (by omega) (by omega) hc
      rw [if_pos hc, if_pos hc, if_neg (by omega), e1, Option.bind_some]
      simp only []
      rw [e2, Option.bind_some]
      simp only []
      rw [inB_n (by omega), Int.toNat_natCast, x2.2.2.2.2.2.1 k (by omega)]
      exact ⟨s2, rfl, f⟩
    · rw [if_neg hc, if_neg hc, if_pos rfl]
      exact ⟨s, rfl, Fr.rf⟩
  · rw [if_neg ha, if_neg ha, if_pos rfl]
    exact ⟨s, rfl, Fr.rf⟩
def sBurst (T : Tab) (w : Nat → Int) (a : Int) : Int := if cpc w a 0 60 then (bns T a.toNat w : Int) else -1
theorem x_burst (D : Nat) {s : Mem} (hx : XM s T w) (ht : Tf T) (hw : Wf T w) (a : Int) : ∃ s1, f_X_burst (D + 7) a s = some (sBurst T w a, s1) ∧ Fr PTr s s1 := by
  unfold sBurst
  rw [e_X_burst, x_can (D + 4) hx ht hw a (by omega) (by omega), Option.bind_some]
  simp only []
  by_cases hc : cpc w a 0 60
  · obtain ⟨s1, s2, e1, e2, f, x2⟩ := x_trial D hx ht hw (by omega) (by omega) hc
    rw [if_pos hc, if_pos hc, if_neg (by omega), e1, Option.bind_some]
    simp only []
    rw [e2, Option.bind_some]
    exact ⟨s2, rfl, f⟩
  · rw [if_neg hc, if_neg hc, if_pos rfl]
    exact ⟨s, rfl, Fr.rf⟩
def sBursts (T : Tab) (w : Nat → Int) (a : Int) : Int := if 0 ≤ a ∧ a < (tG T : Int) then fbu T a.toNat 60 0 w else -1
theorem x_bursts23 (D : Nat) {k : Nat} (ht : Tf T) (hk : k < tG T) : ∀ (j n : Nat) (w : Nat → Int) (s : Mem), n + j = 60 → XR s 35 T w → Wf T w → w 0 ≤ 999 → ∃ s1, L_X_bursts_23 (D + 5) (k : Int) (n : Int) s = some (fbu T k j n w, s1) ∧ Fr PTr s s1
  | 0, n, w, s, hn, hx, hw, h9 => by
    rw [e_X_bursts_23, if_neg (by omega)]
    exact ⟨s, rfl, Fr.rf⟩
  | j + 1, n, w, s, hn, hx, hw, h9 => by
    have hg := ht.2.2.1
    rw [e_X_bursts_23, if_pos (by omega), hx.2.2.1]
    unfold fbu
    by_cases h : w 0 < 999
    · obtain ⟨s1, bb, e1, f1, h1, h2, h3, -, h5⟩ := x_pass D hx ht hw h
      rw [if_pos h, if_pos h, e1, Option.bind_some]
      simp only []
      rw [h2, bit_n (by omega) (by omega), w32_s (by omega)]
      have h5k := h5 k (by omega)
      cases hb : bin1 k (mnt T w).2
      · have : ¬ ((bb / 2 ^ k % 2 : Nat) : Int) = 1 := fun q => by
          have := h5k.mp (by omega)
          rw [hb] at this
          cases this
        rw [if_neg this]
        simp only [Bool.false_eq_true, if_false]
        obtain ⟨s2, e2, f2⟩ := x_bursts23 D ht hk j (n + 1) (mnt T w).1 s1 (by omega) h1 (mnt_w hw (by omega)) (by rw [mnt_0 hw]; omega)
        exact ⟨s2, e2, (f1.mo PP_Tr).tr f2⟩
      · rw [if_pos (by have := h5k.mpr hb; omega)]
        simp only [if_true]
        exact ⟨s1, rfl, f1.mo PP_Tr⟩
    · rw [if_neg h, if_neg h]
      exact ⟨s, rfl, Fr.rf⟩
theorem x_burstsG (D : Nat) {s : Mem} (hx : XM s T w) (ht : Tf T) (hw : Wf T w) (h9 : w 0 ≤ 999) (a : Int) : ∃ s1, f_X_bursts (D + 6) a s = some (sBursts T w a, s1) ∧ Fr PTr s s1 := by
  have hg := ht.2.2.1
  unfold sBursts
  rw [e_X_bursts, x_isG (D + 4) hx ht, Option.bind_some]
  simp only []
  by_cases ha : 0 ≤ a ∧ a < (tG T : Int)
  · obtain ⟨k, rfl⟩ := Int.eq_ofNat_of_zero_le ha.1
    obtain ⟨s1, e1, f1, x1⟩ := x_copy (D + 4) hx.1 hg
    rw [if_pos ha, if_pos ha, if_neg (by omega), e1, Option.bind_some, Int.toNat_natCast]
    obtain ⟨s2, e2, f2⟩ := x_bursts23 D ht (k := k) (by omega) 60 0 w s1 rfl x1 hw h9
    exact ⟨s2, e2, (f1.mo PC_Tr).tr f2⟩
  · rw [if_neg ha, if_neg ha, if_pos rfl]
    exact ⟨s, rfl, Fr.rf⟩
def sHoops (T : Tab) (w : Nat → Int) (a : Int) : Int := if cpc w a 1 30 then hpk T a.toNat w (2 ^ tN T) 0 (-1) else -1
theorem x_hoops9 (D : Nat) {n : Nat} (ht : Tf T) (hw : Wf T w) (hn : n ≤ 999) (hn2 : w 0 + n ≤ 999) : ∀ (j set : Nat) (e f : Int) (s : Mem), set + j = 2 ^ tN T → ((e = -1 ∧ f = 10) ∨ ∃ b : Nat, e = (b : Int) ∧ b < 512 ∧ f = (pcn 10 b : Int)) → XM s T w → ∃ s1, L_Pl_seekHoops_9 (D + 6) 28 (n : Int) e f (set : Int) s = some (hpk T n w j set e, s1) ∧ Fr PTr s s1
  | 0, set, e, f, s, hj, hb, hx => by
    have hn := ht.2.1
    rw [e_Pl_seekHoops_9, hx.1.n, iShl_1 (by omega), if_neg (by omega)]
    exact ⟨s, rfl, Fr.rf⟩
  | j + 1, set, e, f, s, hj, hb, hx => by
    have hn9 := ht.2.1
    have hp : 2 ^ tN T ≤ 2 ^ 9 := Nat.pow_le_pow_right (by omega) hn9
    have hp9 := pcn_tab ⟨set, by omega⟩
    simp only [] at hp9
    have cond : ((pcn 10 set : Nat) : Int) < f ↔ (e = -1 ∨ pcn 10 set < pcn 10 e.toNat) := by
      rcases hb with ⟨rfl, rfl⟩ | ⟨b, rfl, h1, rfl⟩
      · constructor
        · intro _; exact Or.inl rfl
        · intro _; omega
      · rw [Int.toNat_natCast]
        constructor
        · intro h; exact Or.inr (by omega)
        · intro h; omega
    rw [e_Pl_seekHoops_9, hx.1.n, iShl_1 (by omega), if_pos (by omega), x_bc (D + 5) (by omega), Option.bind_some, w32_s (by omega)]
    simp only []
    unfold hpk
    by_cases hc : ((pcn 10 set : Nat) : Int) < f
    · obtain ⟨s1, e1, f1, x1⟩ := x_copy (D + 5) hx.1 ht.2.2.1
      have f2 : Fr (fun a k => a = 35 ∧ k = 2) s1 (wI s1 35 2 (set : Int)) := Fr.rf.w ⟨rfl, rfl⟩
      have x2 : XR (wI s1 35 2 (set : Int)) 35 T (whp w set) := by
        obtain ⟨g1, g2, g3, g4, g5, g6, g7, g8⟩ := x1
        have o1 : ∀ i, 10 ≤ i → whp w set i = w i := fun i hi => if_neg (by omega)
        refine ⟨g1, g2.fr f2 (fun a k q => by omega), (f2.i (by omega)).trans (g3.trans (if_neg (by omega)).symm), ⟨set, rI_same _ _ _ _, by omega, fun q hq => ?_⟩, fun k hk => (f2.i (by omega)).trans ((g5 k hk).trans (o1 _ (by omega)).symm), fun k hk => (f2.i (by omega)).trans ((g6 k hk).trans (o1 _ (by omega)).symm), fun k hk => (f2.i (by omega)).trans (g7 k hk), fun q hq => (f2.i (by omega)).trans ((g8 q hq).trans (who_c (fun k hk => o1 _ (by omega)) _).symm)⟩
        unfold whp
        rw [if_pos (by omega), show 1 + q - 1 = q by omega]
      have hw2 := hw.hp set
      have h00 : whp w set 0 = w 0 := if_neg (by omega)
      obtain ⟨s2, r, e2, f3, c1, c2, c3⟩ := x_go D (n := n) (most := 0) x2 ht hw2 hn (by rw [h00]; exact hn2)
      have ff : Fr PTr s s2 := ((f1.mo PC_Tr).tr (f2.mo (fun a k q => by unfold PTr; omega))).tr (f3.mo PP_Tr)
      rw [if_pos hc, e1, Option.bind_some]
      simp only []
      rw [e2, Option.bind_some]
      simp only []
      by_cases hz : bns T n (whp w set) = 0
      · obtain ⟨hr, -⟩ := c1 (by omega)
        obtain ⟨s3, e3, f4⟩ := x_hoops9 D ht hw hn hn2 j (set + 1) (set : Int) ((pcn 10 set : Nat) : Int) s2 (by omega) (Or.inr ⟨set, rfl, by omega, rfl⟩) (hx.fr ff PTr33)
        rw [if_pos (by omega), if_pos ⟨cond.mp hc, hz⟩]
        exact ⟨s3, e3, ff.tr f4⟩
      · have hr := c2 (by omega)
        obtain ⟨s3, e3, f4⟩ := x_hoops9 D ht hw hn hn2 j (set + 1) e f s2 (by omega) hb (hx.fr ff PTr33)
        rw [if_neg (by omega), if_neg (fun q => hz q.2)]
        exact ⟨s3, e3, ff.tr f4⟩
    · obtain ⟨s3, e3, f4⟩ := x_hoops9 D ht hw hn hn2 j (set + 1) e f s (by omega) hb hx
      rw [if_neg hc, if_neg (fun q => hc (cond.mpr q.1))]
      exact ⟨s3, e3, f4⟩
theorem x_hoops (D : Nat) {s : Mem} (hx : XM s T w) (ht : Tf T) (hw : Wf T w) (a : Int) : ∃ s1, f_X_hoops (D + 8) a s = some (sHoops T w a, s1) ∧ Fr PTr s s1 := by
  unfold sHoops
  rw [e_X_hoops, x_can (D + 5) hx ht hw a (by omega) (by omega), Option.bind_some]
  simp only []
  by_cases hc : cpc w a 1 30
  · obtain ⟨n, rfl⟩ := Int.eq_ofNat_of_zero_le (show 0 ≤ a by have := hc.1; omega)
    have hc2 := hc.2
    obtain ⟨s1, e1, f1⟩ := x_hoops9 D (n := n) ht hw (by omega) (by omega) (2 ^ tN T) 0 (-1) 10 s (by omega) (Or.inl ⟨rfl, rfl⟩) hx
    rw [if_pos hc, if_pos hc, if_neg (by omega), show f_Pl_seekHoops (D + 7) 28 (n : Int) s = _ from (e_Pl_seekHoops (D + 6) 28 n s).trans e1, Option.bind_some]
    exact ⟨s1, rfl, f1⟩
  · rw [if_neg hc, if_neg hc, if_pos rfl]
    exact ⟨s, rfl, Fr.rf⟩
/-- who is where, found anew -/
theorem who_s {w : Nat → Int} (hw : Wf T w) {b : Nat} (hb : b < tG T) (q : Int) : who w (b + 1) q = if w (10 + 2 * b) = q then (b : Int) else who w b q := by
  rcases who_or w (b + 1) q with ⟨h1, h2⟩ | ⟨i, h2, h3, h4⟩
  · rw [if_neg (h2 b (by omega))]
    rcases who_or w b q with ⟨g1, -⟩ | ⟨j, g2, g3, g4⟩
    · rw [h1, g1]
    · exact absurd g4 (h2 j (by omega))
  · by_cases e : w (10 + 2 * b) = q
    · rw [if_pos e, h3, hw.2.2.2 i b (by omega) hb (h4.trans e.symm)]
    · rw [if_neg e, h3]
      have hib : i ≠ b := fun z => e (z ▸ h4)
      rcases who_or w b q with ⟨-, g2⟩ | ⟨j, g2, g3, g4⟩
      · exact absurd h4 (g2 i (by omega))
      · rw [g3, hw.2.2.2 i j (by omega) (by omega) (h4.trans g4.symm)]
theorem x_find23 (D : Nat) {o : Nat} (ht : Tf T) (hw : Wf T w) (ho : o = 28 ∨ o = 35) : ∀ (j b : Nat) (s : Mem), b + j = tG T → (rQ s o 0 = 6 ∨ rQ s o 0 = 17) → rI s (rQ s o 0) 2 = (tG T : Int) → (∀ k, k < tG T → rI s (o + 1) k = w (10 + 2 * k)) → (∀ q, q < 9 → rI s (o + 4) q = who w b (q : Int)) → ∃ s1, L_Rg_findGuests_23 D o (b : Int) s = some (0, s1) ∧ Fr (fun a _ => a = o + 4) s s1 ∧ ∀ q, q < 9 → rI s1 (o + 4) q = who w (tG T) (q : Int)
  | 0, b, s, hb, ht6, hr, hs, hq => by
    rw [e_Rg_findGuests_23, hr, if_neg (by omega)]
    exact ⟨s, rfl, Fr.rf, fun q h => by rw [hq q h, show b = tG T by omega]⟩
  | j + 1, b, s, hb, ht6, hr, hs, hq => by
    have hg := ht.2.2.1
    have hn := ht.2.1
    have hse := (hw.2.2.1 b (by omega)).1
    obtain ⟨q, hqe⟩ := Int.eq_ofNat_of_zero_le hse.1
    have hsb := hs b (by omega)
    rw [hqe] at hsb
    have f1 : Fr (fun a _ => a = o + 4) s (wI s (o + 4) q (b : Int)) := Fr.rf.w rfl
    obtain ⟨s1, e1, f2, g1⟩ := x_find23 D ht hw ho j (b + 1) (wI s (o + 4) q (b : Int)) (by omega) (by rw [rQ_wI]; exact ht6) (by rw [rQ_wI, rI_other _ _ _ _ (by omega)]; exact hr) (fun k hk => (f1.i (by omega)).trans (hs k hk)) (fun i hi => by
      rw [who_s hw (by omega)]
      by_cases e : i = q
      · rw [e, rI_same, if_pos hqe]
      · rw [rI_other _ _ _ _ (by omega), if_neg (by omega)]; exact hq i hi)
    refine ⟨s1, ?_, f1.tr f2, g1⟩
    rw [e_Rg_findGuests_23, hr, if_pos (by omega), if_pos (by omega), inB_n (by omega), Int.toNat_natCast, hsb, if_neg (by omega), inB_n (by omega), if_pos (by omega), inB_n (by omega), inB_n (by omega), Int.toNat_natCast, w32_s (by omega)]
    exact e1
theorem x_find2 (D : Nat) {o : Nat} : ∀ (j b : Nat) (s : Mem), b + j = 9 → (∀ q, q < b → rI s (o + 4) q = -1) → ∃ s1, L_Rg_findGuests_2 D o (b : Int) s = L_Rg_findGuests_23 D o 0 s1 ∧ Fr (fun a _ => a = o + 4) s s1 ∧ ∀ q, q < 9 → rI s1 (o + 4) q = -1
  | 0, b, s, hb, hq => by
    rw [e_Rg_findGuests_2, if_neg (by omega)]
    exact ⟨s, rfl, Fr.rf, fun q h => hq q (by omega)⟩
  | j + 1, b, s, hb, hq => by
    obtain ⟨s1, e1, f1, g1⟩ := x_find2 D (o := o) j (b + 1) (wI s (o + 4) b (-1)) (by omega) (fun q h => by
      by_cases e : q = b
      · rw [e, rI_same]
      · rw [rI_other _ _ _ _ (by omega)]; exact hq q (by omega))
    refine ⟨s1, ?_, (Fr.rf.w (P := fun a _ => a = o + 4) rfl).tr f1, g1⟩
    rw [e_Rg_findGuests_2, if_pos (by omega), inB_n (by omega), Int.toNat_natCast, w32_s (by omega)]
    exact e1
theorem x_find (D : Nat) {o : Nat} {s : Mem} (ht : Tf T) (hw : Wf T w) (ho : o = 28 ∨ o = 35) (h6 : rQ s o 0 = 6 ∨ rQ s o 0 = 17) (hr : rI s (rQ s o 0) 2 = (tG T : Int)) (hs : ∀ k, k < tG T → rI s (o + 1) k = w (10 + 2 * k)) : ∃ s1, f_Rg_findGuests (D + 1) o s = some (0, s1) ∧ Fr (fun a _ => a = o + 4) s s1 ∧ ∀ q, q < 9 → rI s1 (o + 4) q = who w (tG T) (q : Int) := by
  obtain ⟨s1, e1, f1, g1⟩ := x_find2 D (o := o) 9 0 s rfl (fun q h => by omega)
  obtain ⟨s2, e2, f2, g2⟩ := x_find23 D ht hw ho (tG T) 0 s1 (by omega) (by rw [f1.q (by omega)]; exact h6) (by rw [f1.q (by omega), f1.i (by omega)]; exact hr) (fun k hk => (f1.i (by omega)).trans (hs k hk)) (fun q hq => g1 q hq)
  exact ⟨s2, (e_Rg_findGuests D o s).trans (e1.trans e2), f1.tr f2, g2⟩
/-- the guests of a ring sit anew -/
theorem x_reseat (D : Nat) {o : Nat} {s s' : Mem} {w' : Nat → Int} (hx : XR s o T w) (ht : Tf T) (hw : Wf T w) (hf : Fr (fun a _ => a = o + 1) s s') (hs : ∀ k, k < tG T → rI s' (o + 1) k = w' (10 + 2 * k)) (hse : Se T w w') : ∃ s1, f_Rg_findGuests (D + 1) o s' = some (0, s1) ∧ Fr (fun a _ => a = o + 1 ∨ a = o + 4) s s1 ∧ XR s1 o T w' := by
  have hw' := hw.se hse
  obtain ⟨g1, g2, g3, g4, g5, g6, g7, g8⟩ := hx
  have h6 : rQ s' o 0 = rQ s o 0 := hf.q (by omega)
  have h28 := g2.1
  obtain ⟨s1, e1, f1, k1⟩ := x_find D (o := o) (s := s') ht hw' g1 (by rw [h6]; exact h28) (by rw [h6, hf.i (by omega)]; exact g2.2.2.1) hs
  have ff : Fr (fun a _ => a = o + 1 ∨ a = o + 4) s s1 := (hf.mo (fun a k q => Or.inl q)).tr (f1.mo (fun a k q => Or.inr q))
  refine ⟨s1, e1, ff, g1, ?_, (ff.i (by omega)).trans (g3.trans hse.1.symm), ?_, fun k hk => (f1.i (by omega)).trans (hs k hk), fun k hk => (ff.i (by omega)).trans ((g6 k hk).trans (hse.2.2.1 k hk).symm), fun k hk => (ff.i (by omega)).trans (g7 k hk), k1⟩
  · rw [ff.q (by omega)]
    exact g2.fr ff (fun a k q => by omega)
  · rw [ff.i (by omega)]
    exact g4.c hse.2.1
end XPLAN
