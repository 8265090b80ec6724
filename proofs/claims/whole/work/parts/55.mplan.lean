/-! the reference: ahead, hoops, change, seating -/
/-- the reference as a whole -/
def MM (s : Mem) (T : Tab) (w : Nat → Int) : Prop := MT s T ∧ MW s w ∧ rI s 84 49 = 1 ∧ rI s 84 53 = -1 ∧ rI s 84 57 = 0
def MA (s : Mem) (w : Nat → Int) : Prop := ∀ i, i < 24 → rI s 123 i = w i
theorem MA.fr {s s' : Mem} {w : Nat → Int} {P : Nat → Nat → Prop} (h : MA s w) (hf : Fr P s s') (hp : ∀ a i, P a i → a ≠ 123) : MA s' w := fun i hi => (hf.i (fun q => hp _ _ q rfl)).trans (h i hi)
theorem MW.c {s : Mem} {w w' : Nat → Int} (h : MW s w) (he : ∀ i, i < 24 → w' i = w i) : MW s w' := fun i hi => (h i hi).trans (he i hi).symm
/-- what a question ahead may change -/
abbrev PQ : Nat → Nat → Prop := fun a i => a = 84 ∧ (i = 50 ∨ 53 ≤ i ∧ i ≤ 59 ∨ 61 ≤ i ∧ i ≤ 63 ∨ i = 105) ∨ a = 122 ∧ i < 24 ∨ 123 ≤ a ∧ a ≤ 126 ∨ a = 128 ∨ a = 157
theorem PMm_Q : ∀ a i, PMm true a i → PQ a i := fun a i h => by
  rcases h with h | h | h | ⟨h1, h2⟩
  · unfold PQ; omega
  · unfold PQ; omega
  · unfold PQ; omega
  · rcases h2 with h2 | h2
    · unfold PQ; omega
    · cases h2
/-- while it is thought ahead: the thought table, the ring, what it was -/
def MH (s : Mem) (T : Tab) (w w0 : Nat → Int) : Prop := MT s T ∧ MW s w ∧ MA s w0 ∧ rI s 84 57 = 1 ∧ rI s 84 49 = 1 ∧ ∃ bs : Nat, rI s 84 59 = (bs : Int) ∧ bs < 128
abbrev PAs : Nat → Nat → Prop := fun a i => a = 123 ∨ a = 84 ∧ (i = 57 ∨ i = 59)
theorem m_aside12 (D : Nat) {w : Nat → Int} : ∀ (j b : Nat) (s : Mem), b + j = 24 → MW s w → (∀ i, i < b → rI s 123 i = w i) → ∃ s1, L_M_putsAside_12 D (b : Int) s = some (0, s1) ∧ Fr (fun a _ => a = 123) s s1 ∧ MA s1 w
  | 0, b, s, hb, hw, hi => by
    rw [e_M_putsAside_12, if_neg (by omega)]
    exact ⟨s, rfl, Fr.rf, fun i h => hi i (by omega)⟩
  | j + 1, b, s, hb, hw, hi => by
    have f1 : Fr (fun a _ => a = 123) s (wI s 123 b (w b)) := Fr.rf.w rfl
    obtain ⟨s1, e1, f2, g1⟩ := m_aside12 D (w := w) j (b + 1) (wI s 123 b (w b)) (by omega) (hw.fr f1 (fun a i q => by omega)) (fun i h => by
      by_cases e : i = b
      · rw [e, rI_same]
      · rw [rI_other _ _ _ _ (by omega)]; exact hi i (by omega))
    rw [e_M_putsAside_12, if_pos (by omega), inB_n (by omega), inB_n (by omega), Int.toNat_natCast, hw b (by omega), w32_s (by omega)]
    exact ⟨s1, e1, f1.tr f2, g1⟩
theorem m_tries2 (D : Nat) {w0 w : Nat → Int} : ∀ (j b : Nat) (s : Mem), b + j = 24 → MA s w0 → (∀ i, i < b → rI s 122 i = w0 i) → ∃ s1, L_M_triesAnew_2 D (b : Int) s = some (0, s1) ∧ Fr (fun a i => a = 122 ∧ i < 24) s s1 ∧ MW s1 w0
  | 0, b, s, hb, ha, hi => by
    rw [e_M_triesAnew_2, if_neg (by omega)]
    exact ⟨s, rfl, Fr.rf, fun i h => hi i (by omega)⟩
  | j + 1, b, s, hb, ha, hi => by
    have f1 : Fr (fun a i => a = 122 ∧ i < 24) s (wI s 122 b (w0 b)) := Fr.rf.w (by omega)
    obtain ⟨s1, e1, f2, g1⟩ := m_tries2 D (w0 := w0) (w := w) j (b + 1) (wI s 122 b (w0 b)) (by omega) (ha.fr f1 (fun a i q => by omega)) (fun i h => by
      by_cases e : i = b
      · rw [e, rI_same]
      · rw [rI_other _ _ _ _ (by omega)]; exact hi i (by omega))
    rw [e_M_triesAnew_2, if_pos (by omega), inB_n (by omega), inB_n (by omega), Int.toNat_natCast, ha b (by omega), w32_s (by omega)]
    exact ⟨s1, e1, f1.tr f2, g1⟩
section MPLAN
variable {T : Tab} {w w0 : Nat → Int}
theorem m_aside (D : Nat) {s : Mem} (hm : MM s T w) : ∃ s1, f_M_putsAside (D + 1) s = some (0, s1) ∧ Fr PAs s s1 ∧ MH s1 T w w ∧ rI s1 84 59 = 0 ∧ rI s1 84 53 = -1 := by
  obtain ⟨h1, h2, h3, h4, h5⟩ := hm
  have f0 : Fr PAs s (wI (wI s 84 57 1) 84 59 0) := (Fr.rf.w (by unfold PAs; omega)).w (by unfold PAs; omega)
  have hp : PMT PAs := fun a i q => by unfold PAs at q; omega
  obtain ⟨s1, e1, f1, g1⟩ := m_aside12 D 24 0 (wI (wI s 84 57 1) 84 59 0) rfl (h2.fr f0 (fun a i q => by unfold PAs at q; omega)) (fun i hi => by omega)
  have ff : Fr PAs s s1 := f0.tr (f1.mo (fun a i q => Or.inl q))
  have h57 : rI s1 84 57 = 1 := by rw [f1.i (by omega), rI_other _ _ _ _ (by omega), rI_same]
  have h59 : rI s1 84 59 = 0 := by rw [f1.i (by omega), rI_same]
  rw [e_M_putsAside]
  exact ⟨s1, e1, ff, ⟨h1.fr ff hp, h2.fr ff (fun a i q => by unfold PAs at q; omega), g1, h57, (ff.i (by unfold PAs; omega)).trans h3, 0, h59, by omega⟩, h59, (ff.i (by unfold PAs; omega)).trans h4⟩
theorem m_tries (D : Nat) {s : Mem} (hm : MH s T w w0) : ∃ s1, f_M_triesAnew (D + 1) s = some (0, s1) ∧ Fr (fun a i => a = 122 ∧ i < 24) s s1 ∧ MH s1 T w0 w0 := by
  obtain ⟨h1, h2, h3, h4, h5, bs, h6, h7⟩ := hm
  obtain ⟨s1, e1, f1, g1⟩ := m_tries2 D (w := w) 24 0 s rfl h3 (fun i hi => by omega)
  rw [e_M_triesAnew]
  exact ⟨s1, e1, f1, h1.fr f1 (fun a i q => by omega), g1, h3.fr f1 (fun a i q => by omega), (f1.i (by omega)).trans h4, (f1.i (by omega)).trans h5, bs, (f1.i (by omega)).trans h6, h7⟩
/-- who has burst: bits of guests -/
def bsO (s : Mem) : Prop := ∃ bs : Nat, rI s 84 59 = (bs : Int) ∧ bs < 128
def Zb (s : Mem) : Prop := rI s 84 57 = 0 ∧ bsO s
theorem m_back (D : Nat) {s : Mem} (hm : MH s T w w0) : ∃ s1, f_M_takesBack (D + 2) s = some (0, s1) ∧ Fr (fun a i => a = 122 ∧ i < 24 ∨ a = 84 ∧ (i = 53 ∨ i = 57)) s s1 ∧ MW s1 w0 ∧ rI s1 84 53 = -1 ∧ Zb s1 := by
  obtain ⟨s1, e1, f1, g1⟩ := m_tries D hm
  have f2 : Fr (fun a i => a = 122 ∧ i < 24 ∨ a = 84 ∧ (i = 53 ∨ i = 57)) s1 (wI (wI s1 84 53 (-1)) 84 57 0) := (Fr.rf.w (by omega)).w (by omega)
  rw [e_M_takesBack, e1, Option.bind_some]
  exact ⟨_, rfl, (f1.mo (fun a i q => Or.inl q)).tr f2, g1.2.1.fr (P := fun a _ => a = 84) ((Fr.rf.w (P := fun a _ => a = 84) rfl).w rfl) (fun a i q => by omega), by rw [rI_other _ _ _ _ (by omega), rI_same], rI_same _ _ _ _, hm.2.2.2.2.2.elim fun bs hb => ⟨bs, by rw [rI_other _ _ _ _ (by omega), rI_other _ _ _ _ (by omega), f1.i (by omega)]; exact hb.1, hb.2⟩⟩
/-- n minutes -/
theorem m_go7 (D : Nat) (ht : Tf T) {th : Bool} : ∀ (n b c : Nat) (w : Nat → Int) (s : Mem) (K : List Int) (m bs : Nat), c + n = b → b ≤ 1000 → m ≤ 7 * c → Wf T w → w 0 + n ≤ 1100 → MT s T → MW s w → Kq s th K → rI s 84 58 = (m : Int) → rI s 84 59 = (bs : Int) → bs < 128 → ∃ s1 bs1, L_M_minutesGo_7 (D + 10) (b : Int) (c : Int) s = some (0, s1) ∧ Fr (PMm th) s s1 ∧ MT s1 T ∧ MW s1 (mns T n w) ∧ Kq s1 th (if th then K else kmn T n w K) ∧ rI s1 84 58 = ((m + bns T n w : Nat) : Int) ∧ rI s1 84 59 = ((bs1 : Nat) : Int) ∧ bs1 < 128
  | 0, b, c, w, s, K, m, bs, hb, hb2, hmc, hf, h0, hm, hw, hK, h58, h59, hbs => by
    rw [e_M_minutesGo_7, if_neg (by omega)]
    refine ⟨s, bs, rfl, Fr.rf, hm, hw, ?_, h58, h59, hbs⟩
    cases th <;> exact hK
  | n + 1, b, c, w, s, K, m, bs, hb, hb2, hmc, hf, h0, hm, hw, hK, h58, h59, hbs => by
    have hg := ht.2.2.1
    have hl := mnt_len (T := T) (w := w)
    obtain ⟨s1, b1, e1, f1, hw1, hK1, g58, g59, gb, -⟩ := m_minute D (th := th) hm hw hf ht hK h59 hbs
    have hw0 := mnt_0 hf
    obtain ⟨s2, b2, e2, f2, k1, k2, k3, k4, k5, k6⟩ := m_go7 D ht (th := th) n b (c + 1) (mnt T w).1 s1 _ (m + (mnt T w).2.length) b1 (by omega) hb2 (by omega) (mnt_w hf (by omega)) (by omega) (hm.fr f1 PMm_T) hw1 hK1 (g58 m h58 (by omega)) g59 gb
    rw [e_M_minutesGo_7, if_pos (by omega), e1, Option.bind_some, w32_s (by omega)]
    refine ⟨s2, b2, e2, f1.tr f2, k1, k2, ?_, ?_, k5, k6⟩
    · unfold kth at k3
      cases th
      · exact k3
      · exact k3
    · rw [k4, show bns T (n + 1) w = (mnt T w).2.length + bns T n (mnt T w).1 from rfl]; congr 1; omega
theorem m_go (D : Nat) {s : Mem} {n : Nat} (ht : Tf T) (hf : Wf T w) (h0 : w 0 + n ≤ 1100) (hn : n ≤ 1000) (hm : MH s T w w0) : ∃ s1, f_M_minutesGo (D + 11) (n : Int) s = some (0, s1) ∧ Fr (PMm true) s s1 ∧ MH s1 T (mns T n w) w0 ∧ rI s1 84 58 = (bns T n w : Int) := by
  obtain ⟨h1, h2, h3, h4, h5, bs, h6, h7⟩ := hm
  have f0 : Fr (fun a i => a = 84 ∧ i = 58) s (wI s 84 58 0) := Fr.rf.w ⟨rfl, rfl⟩
  obtain ⟨s1, b1, e1, f1, k1, k2, k3, k4, k5, k6⟩ := m_go7 D ht (th := true) n n 0 w _ [] 0 bs (by omega) hn (by omega) hf h0 (h1.fr f0 (fun a i q => by omega)) (h2.fr f0 (fun a i q => by omega)) (Or.inl ⟨rfl, (f0.i (by omega)).trans h4⟩) (rI_same _ _ _ _) ((f0.i (by omega)).trans h6) h7
  have ff : Fr (PMm true) s s1 := (f0.mo (fun a i q => by unfold PMm; omega)).tr f1
  have hp : ∀ a i, PMm true a i → (a ≠ 84 ∨ (i ≠ 49 ∧ i ≠ 57)) ∧ a ≠ 123 := fun a i q => by
    have := PMm_Q a i q
    rcases q with q | q | q | q <;> omega
  rw [e_M_minutesGo]
  rw [Nat.zero_add] at k4
  exact ⟨s1, e1, ff, ⟨k1, k2, h3.fr ff (fun a i q => (hp a i q).2), (ff.i (fun q => by have := (hp _ _ q).1; omega)).trans h4, (ff.i (fun q => by have := (hp _ _ q).1; omega)).trans h5, b1, k5, k6⟩, k4⟩
theorem m_can (D : Nat) {s : Mem} (hm : MM s T w) (hf : Wf T w) (n : Int) {lo hi : Int} (h1 : 0 ≤ lo) (h2 : hi ≤ 1000) : f_M_isAhead (D + 2) n lo hi s = some (if cpc w n lo hi then 1 else 0, s) := by
  have h0 := hf.1
  rw [e_M_isAhead, hm.2.2.1, if_neg (by omega), m_isIn, Option.bind_some]
  simp only []
  rw [hm.2.1 0 (by omega)]
  by_cases a1 : lo ≤ n ∧ n ≤ hi
  · rw [if_pos a1, if_neg (by omega), w32_i (by omega) (by omega)]
    by_cases a3 : 999 < w 0 + n
    · rw [if_pos a3, if_neg (by rw [cpc_i]; omega)]
    · rw [if_neg a3, if_pos (by rw [cpc_i]; omega)]
  · rw [if_neg a1, if_pos rfl, if_neg (by rw [cpc_i]; omega)]
/-- the reference is as it was -/
theorem MM.of {s s' : Mem} (h : MM s T w) (hf : Fr PQ s s') (hw : MW s' w) (h53 : rI s' 84 53 = -1) (h57 : rI s' 84 57 = 0) : MM s' T w := by
  obtain ⟨⟨h1, h2, h3, h4, h5, h6, h7⟩, -, k3, k4, k5⟩ := h
  have hn : ∀ a i, (a = 114 ∨ a = 116 ∨ a = 84 ∧ i = 49) → ¬ PQ a i := fun a i ha q => by unfold PQ at q; omega
  have hm : ∀ a i, PQ a i → a < 119 ∨ 121 < a := fun a i q => by unfold PQ at q; omega
  refine ⟨⟨(hf.i (hn _ _ (by omega))).trans h1, (hf.i (hn _ _ (by omega))).trans h2, fun k hk => ?_, fun k hk => (hf.i (hn _ _ (by omega))).trans (h4 k hk), h5.fr hf hm, h6.fr hf hm, h7.fr hf hm⟩, hw, (hf.i (hn _ _ (by omega))).trans k3, h53, h57⟩
  have := h3 k hk
  rw [k4, if_neg (by omega)] at this
  rw [h53, if_neg (by omega), hf.i (hn 116 _ (by omega))]
  exact this
theorem PAs_Q : ∀ a i, PAs a i → PQ a i := fun a i h => by unfold PAs at h; unfold PQ; omega
theorem Pb_Q : ∀ a i, (a = 122 ∧ i < 24 ∨ a = 84 ∧ (i = 53 ∨ i = 57)) → PQ a i := fun a i h => by unfold PQ; omega
theorem Pt_Q : ∀ a i, (a = 122 ∧ i < 24) → PQ a i := fun a i h => by unfold PQ; omega
theorem m_later (D : Nat) {s : Mem} (hm : MM s T w) (ht : Tf T) (hf : Wf T w) (h9 : w 0 ≤ 999) (a b : Int) : ∃ s1, f_M_later (D + 12) a b s = some (sLater T w a b, s1) ∧ Fr PQ s s1 ∧ MM s1 T w ∧ (bsO s → bsO s1) := by
  have hg := ht.2.2.1
  unfold sLater
  rw [e_M_later, m_isG (D + 9) hm.1 hg, Option.bind_some]
  simp only []
  by_cases ha : 0 ≤ a ∧ a < (tG T : Int)
  · obtain ⟨k, rfl⟩ := Int.eq_ofNat_of_zero_le ha.1
    rw [if_pos ha, if_pos ha, if_neg (by omega), m_can (D + 9) hm hf b (by omega) (by omega), Option.bind_some]
    simp only []
    by_cases hc : cpc w b 0 60
    · obtain ⟨n, rfl⟩ := Int.eq_ofNat_of_zero_le hc.1
      have hc2 := hc.2
      obtain ⟨s1, e1, f1, m1, -⟩ := m_aside (D + 10) hm
      obtain ⟨s2, e2, f2, m2, -⟩ := m_go D (n := n) ht hf (by omega) (by omega) m1
      obtain ⟨s3, e3, f3, m3, h53, h57⟩ := m_back (D + 9) m2
      have ff : Fr PQ s s3 := ((f1.mo PAs_Q).tr (f2.mo PMm_Q)).tr (f3.mo Pb_Q)
      rw [if_pos hc, if_pos hc, if_neg (by omega), e1, Option.bind_some]
      simp only []
      rw [e2, Option.bind_some]
      simp only []
      rw [m_swellOf (D + 10) m2.2.1 (by omega), Option.bind_some]
      simp only []
      rw [e3, Option.bind_some]
      exact ⟨s3, rfl, ff, hm.of ff m3 h53 h57.1, fun _ => h57.2⟩
    · rw [if_neg hc, if_neg hc, if_pos rfl]
      exact ⟨s, rfl, Fr.rf, hm, id⟩
  · rw [if_neg ha, if_neg ha, if_pos rfl]
    exact ⟨s, rfl, Fr.rf, hm, id⟩
theorem m_burst (D : Nat) {s : Mem} (hm : MM s T w) (ht : Tf T) (hf : Wf T w) (a : Int) : ∃ s1, f_M_burst (D + 12) a s = some (sBurst T w a, s1) ∧ Fr PQ s s1 ∧ MM s1 T w ∧ (bsO s → bsO s1) := by
  unfold sBurst
  rw [e_M_burst, m_can (D + 9) hm hf a (by omega) (by omega), Option.bind_some]
  simp only []
  by_cases hc : cpc w a 0 60
  · obtain ⟨n, rfl⟩ := Int.eq_ofNat_of_zero_le hc.1
    have hc2 := hc.2
    obtain ⟨s1, e1, f1, m1, -⟩ := m_aside (D + 10) hm
    obtain ⟨s2, e2, f2, m2, h58⟩ := m_go D (n := n) ht hf (by omega) (by omega) m1
    obtain ⟨s3, e3, f3, m3, h53, h57⟩ := m_back (D + 9) m2
    have ff : Fr PQ s s3 := ((f1.mo PAs_Q).tr (f2.mo PMm_Q)).tr (f3.mo Pb_Q)
    rw [if_pos hc, if_pos hc, if_neg (by omega), e1, Option.bind_some]
    simp only []
    rw [e2, Option.bind_some]
    simp only []
    rw [e3, Option.bind_some]
    simp only []
    rw [f3.i (by omega), h58, Int.toNat_natCast]
    exact ⟨s3, rfl, ff, hm.of ff m3 h53 h57.1, fun _ => h57.2⟩
  · rw [if_neg hc, if_neg hc, if_pos rfl]
    exact ⟨s, rfl, Fr.rf, hm, id⟩
end MPLAN
