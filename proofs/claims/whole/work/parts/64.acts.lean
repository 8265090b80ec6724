/-! acts, on both sides -/
/-- what an act leaves: the class's side, the reference's side -/
def XAct (s s1 : Mem) (T : Tab) (w : Nat → Int) (K : List Int) (nx : Nat) (U : UL) : Prop := Fr (fun a k => 28 ≤ a ∧ a ≤ 34 ∧ (a = 28 → 1 ≤ k) ∨ a = 42 ∧ k = 1 ∨ a = 43 ∨ a = 44 ∧ (k = 1 ∨ k = 2) ∨ 46 ≤ a ∧ a ≤ 65 ∨ a = 79) s s1 ∧ XM s1 T w ∧ KX s1 K ∧ XU s1 T nx U ∧ rI s1 79 1 = 0 ∧ rI s1 79 2 = 0
abbrev PMa : Nat → Nat → Prop := fun a i => a = 84 ∧ (i = 50 ∨ i = 55 ∨ i = 56 ∨ i = 58 ∨ i = 59 ∨ i = 70 ∨ i = 71 ∨ i = 105) ∨ a = 122 ∨ a = 124 ∨ a = 129 ∨ a = 157
def bsOk (s : Mem) : Prop := ∃ bs : Nat, rI s 84 59 = (bs : Int) ∧ bs < 128
def MAct (s s1 : Mem) (T : Tab) (w : Nat → Int) (K : List Int) (nx : Nat) (U : UL) : Prop := Fr PMa s s1 ∧ MM s1 T w ∧ MK s1 K ∧ MU s1 nx U ∧ bsOk s1
theorem bsOk.fr {s s' : Mem} {P : Nat → Nat → Prop} (h : bsOk s) (hf : Fr P s s') (hp : ¬ P 84 59) : bsOk s' := by
  obtain ⟨bs, h1, h2⟩ := h
  exact ⟨bs, (hf.i hp).trans h1, h2⟩
theorem MM.fr {s s' : Mem} {T : Tab} {w : Nat → Int} {P : Nat → Nat → Prop} (h : MM s T w) (hf : Fr P s s') (hp : PMT P) (h2 : ∀ a i, P a i → (a ≠ 122 ∨ 24 ≤ i) ∧ (a ≠ 84 ∨ i ≠ 49 ∧ i ≠ 57)) : MM s' T w := by
  obtain ⟨h1, k2, k3, k4, k5⟩ := h
  exact ⟨h1.fr hf hp, fun i hi => (hf.i (fun q => by have := h2 _ _ q; omega)).trans (k2 i hi), (hf.i (fun q => by have := h2 _ _ q; omega)).trans k3, (hf.i (fun q => by have := hp _ _ q; omega)).trans k4, (hf.i (fun q => by have := h2 _ _ q; omega)).trans k5⟩
theorem x_ref (D : Nat) (s : Mem) {k : Nat} (hk : k < 6) : f_X_refuse (D + 1) (k : Int) s = some (0, wI s 83 k (w32 (rI s 83 k + 1))) := by
  rw [e_X_refuse, if_neg (by omega), if_pos (by omega), inB_n hk, inB_n hk, Int.toNat_natCast]
section ACTS
variable {T : Tab} {w : Nat → Int} {K : List Int} {nx : Nat} {U : UL}
theorem x_begin (D : Nat) {s : Mem} (hx : XM s T w) (ht : Tf T) (hK : KX s K) (hU : XU s T nx U) : ∃ s1, f_X_beginAct (D + 3) s = some (0, s1) ∧ Fr (fun a k => a = 44 ∧ (k = 1 ∨ k = 2) ∨ 46 ≤ a ∧ a ≤ 65 ∨ a = 79) s s1 ∧ XM s1 T w ∧ KX s1 K ∧ XU s1 T ((nx + 1) % 20) (((w, K) :: U).take 20) ∧ rI s1 79 1 = 0 ∧ rI s1 79 2 = 0 := by
  obtain ⟨s1, e1, f1, u1⟩ := x_remember D (w := w) (K := K) hx ht hK hU
  have f2 : Fr (fun a _ => a = 79) s1 (wI (wI s1 79 1 0) 79 2 0) := (Fr.rf.w (P := fun a _ => a = 79) rfl).w rfl
  have ff : Fr (fun a k => a = 44 ∧ (k = 1 ∨ k = 2) ∨ 46 ≤ a ∧ a ≤ 65 ∨ a = 79) s (wI (wI s1 79 1 0) 79 2 0) := (f1.mo (fun a k q => by unfold PRm at q; omega)).tr (f2.mo (fun a k q => by omega))
  rw [e_X_beginAct, e1, Option.bind_some]
  simp only []
  rw [e_Pl_forget, Option.bind_some]
  exact ⟨_, rfl, ff, hx.fr ff (fun a k q => by omega), hK.fr ff (fun a k q => by omega), u1.fr f2 (fun a k q => by omega), by rw [rI_other _ _ _ _ (by omega), rI_same], rI_same _ _ _ _⟩
/-- a hoop is driven or taken -/
def cDrive (T : Tab) (w : Nat → Int) (a b : Int) : Prop := (0 ≤ a ∧ a < (tN T : Int)) ∧ (b = 0 ∨ b = 1) ∧ w (1 + a.toNat) ≠ b
theorem xor_tab : ∀ a : Fin 512, ∀ k : Fin 9, (a.val ^^^ 2 ^ k.val) < 512 ∧ ∀ q : Fin 9, (a.val ^^^ 2 ^ k.val) / 2 ^ q.val % 2 = if q = k then 1 - a.val / 2 ^ k.val % 2 else a.val / 2 ^ q.val % 2 := by decide +kernel
theorem HB.flip {h : Int} (hb : HB h w) {k : Nat} (hk : k < 9) {b : Int} (hv : b = 0 ∨ b = 1) (hne : w (1 + k) ≠ b) : HB (iXor h (iShl 1 (k : Int))) (upW w (1 + k) b) := by
  obtain ⟨a, rfl, h1, h2⟩ := hb
  obtain ⟨t1, t2⟩ := xor_tab ⟨a, h1⟩ ⟨k, hk⟩
  have hp : 2 ^ k ≤ 2 ^ 8 := Nat.pow_le_pow_right (by omega) (by omega)
  refine ⟨a ^^^ 2 ^ k, ?_, t1, fun q hq => ?_⟩
  · rw [iShl_1 (by omega), iXor_nat (by omega) (by omega)]
  · have := t2 ⟨q, hq⟩
    simp only [Fin.mk.injEq] at this
    rw [this]
    have hk2 := h2 k hk
    by_cases e : q = k
    · rw [if_pos e, e, upW_s]
      have : a / 2 ^ k % 2 = 0 ∨ a / 2 ^ k % 2 = 1 := by omega
      omega
    · rw [if_neg e, upW_o (by omega)]
      exact h2 q hq
theorem x_drive (D : Nat) {s : Mem} (hx : XM s T w) (ht : Tf T) (hw : Wf T w) (hK : KX s K) (hU : XU s T nx U) (a b : Int) : (cDrive T w a b → ∃ s1, f_X_drive (D + 4) a b s = some (1, s1) ∧ XAct s s1 T (upW w (1 + a.toNat) b) K ((nx + 1) % 20) (((w, K) :: U).take 20)) ∧ (¬ cDrive T w a b → f_X_drive (D + 4) a b s = some (0, wI s 83 2 (w32 (rI s 83 2 + 1)))) := by
  have hn := ht.2.1
  have href : f_X_refuse (D + 3) 2 s = some (0, wI s 83 2 (w32 (rI s 83 2 + 1))) := x_ref (D + 2) s (k := 2) (by omega)
  rw [e_X_drive, x_isS (D + 2) hx ht, Option.bind_some]
  simp only []
  unfold cDrive
  by_cases ha : 0 ≤ a ∧ a < (tN T : Int)
  · have hh : iAnd (iShr (rI s 28 2) a) 1 = w (1 + a.toNat) := x_hoop hx.1 ha.1 (by omega)
    rw [if_pos ha, if_neg (by omega), hh]
    constructor
    · rintro ⟨-, hb, hne⟩
      rw [if_neg (by omega), if_neg (by omega), if_neg hne]
      obtain ⟨k, rfl⟩ := Int.eq_ofNat_of_zero_le ha.1
      obtain ⟨s1, e1, f1, x1, k1, u1, p1, p2⟩ := x_begin D hx ht hK hU
      have f2 : Fr (fun a i => a = 28 ∧ i = 2) s1 (wI s1 28 2 (iXor (rI s1 28 2) (iShl 1 (k : Int)))) := Fr.rf.w ⟨rfl, rfl⟩
      rw [e1, Option.bind_some, Int.toNat_natCast]
      refine ⟨_, rfl, (f1.mo (fun a i q => by omega)).tr (f2.mo (fun a i q => by omega)), ⟨?_, x1.2⟩, k1.fr f2 (fun a i q => by omega), u1.fr f2 (fun a i q => by omega), (f2.i (by omega)).trans p1, (f2.i (by omega)).trans p2⟩
      obtain ⟨g1, g2, g3, g4, g5, g6, g7, g8⟩ := x1.1
      refine ⟨g1, by rw [rQ_wI]; exact g2.fr f2 (fun a i q => by omega), (f2.i (by omega)).trans (g3.trans (upW_o (by omega)).symm), ?_, fun j hj => (f2.i (by omega)).trans ((g5 j hj).trans (upW_o (by omega)).symm), fun j hj => (f2.i (by omega)).trans ((g6 j hj).trans (upW_o (by omega)).symm), fun j hj => (f2.i (by omega)).trans (g7 j hj), fun q hq => (f2.i (by omega)).trans ((g8 q hq).trans (who_c (fun j hj => upW_o (by omega)) _).symm)⟩
      rw [rI_same]
      exact g4.flip (by omega) hb hne
    · intro hc
      by_cases b1 : b < 0
      · rw [if_pos b1, href, Option.bind_some]
      · rw [if_neg b1]
        by_cases b2 : 1 < b
        · rw [if_pos b2, href, Option.bind_some]
        · rw [if_neg b2]
          by_cases b3 : w (1 + a.toNat) = b
          · rw [if_pos b3, href, Option.bind_some]
          · exact absurd ⟨ha, by omega, b3⟩ hc
  · rw [if_neg ha, if_pos rfl, href, Option.bind_some]
    exact ⟨fun h => absurd h.1 ha, fun _ => rfl⟩
theorem Wf.drive (hw : Wf T w) {k : Nat} (hk : k < 9) {b : Int} (hb : b = 0 ∨ b = 1) : Wf T (upW w (1 + k) b) := by
  obtain ⟨h1, h2, h3, h4⟩ := hw
  refine ⟨by rw [upW_o (by omega)]; exact h1, fun q hq => ?_, fun j hj => by rw [upW_o (by omega), upW_o (by omega)]; exact h3 j hj, fun i j hi hj => by rw [upW_o (by omega), upW_o (by omega)]; exact h4 i j hi hj⟩
  by_cases e : q = k
  · rw [e, upW_s]; exact hb
  · rw [upW_o (by omega)]; exact h2 q hq
theorem m_ref14 (D : Nat) (s : Mem) : L_M_isChanged_14 D s = some (0, wI s 86 2 (w32 (rI s 86 2 + 1))) := e_M_isChanged_14 D s
/-- a number of what is changes -/
theorem m_changed (D : Nat) {s : Mem} {i : Nat} {v : Int} (hm : MM s T w) (hK : MK s K) (hU : MU s nx U) (hb : bsOk s) (hi : i < 24) (hne : w i ≠ v) : ∃ s1, f_M_isChanged (D + 2) 1 (i : Int) v s = some (1, s1) ∧ MAct s s1 T (upW w i v) K ((nx + 1) % 20) (((w, K) :: U).take 20) := by
  obtain ⟨s1, e1, f1, u1⟩ := m_keeps D (w := w) (K := K) hm.2.1 hK hU
  have f2 : Fr (fun a j => a = 122 ∧ j < 24) s1 (wI s1 122 i v) := Fr.rf.w (by omega)
  have m1 : MM s1 T w := hm.fr f1 (fun a j q => by unfold PKe at q; omega) (fun a j q => by unfold PKe at q; omega)
  obtain ⟨k1, k2, k3, k4, k5⟩ := m1
  have hK1 : MK s1 K := hK.fr f1 (fun a j q => by unfold PKe at q; omega)
  rw [e_M_isChanged, if_neg (by omega), inB_n (by omega), Int.toNat_natCast, hm.2.1 i hi, if_neg hne, e1, Option.bind_some, inB_n (by omega)]
  refine ⟨_, rfl, (f1.mo (fun a j q => by unfold PKe at q; unfold PMa; omega)).tr (f2.mo (fun a j q => by unfold PMa; omega)), ⟨k1.fr f2 (fun a j q => by omega), k2.lo i v, (f2.i (by omega)).trans k3, (f2.i (by omega)).trans k4, (f2.i (by omega)).trans k5⟩, hK1.fr f2 (fun a j q => by omega), u1.fr f2 (fun a j q => by omega), (hb.fr f1 (by unfold PKe; omega)).fr f2 (by omega)⟩
theorem m_drive (D : Nat) {s : Mem} (hm : MM s T w) (ht : Tf T) (hK : MK s K) (hU : MU s nx U) (hbs : bsOk s) (a b : Int) : (cDrive T w a b → ∃ s1, f_M_drive (D + 4) a b s = some (1, s1) ∧ MAct s s1 T (upW w (1 + a.toNat) b) K ((nx + 1) % 20) (((w, K) :: U).take 20)) ∧ (¬ cDrive T w a b → f_M_drive (D + 4) a b s = some (0, wI s 86 2 (w32 (rI s 86 2 + 1)))) := by
  have hn := ht.2.1
  have l0 : L_M_drive_23 (D + 3) a b 0 s = some (0, wI s 86 2 (w32 (rI s 86 2 + 1))) := by
    rw [e_M_drive_23, if_pos rfl, e_M_isChanged, if_pos rfl, m_ref14, Option.bind_some]
    rfl
  rw [e_M_drive, m_isS (D + 1) hm.1 hn, Option.bind_some]
  simp only []
  unfold cDrive
  by_cases ha : 0 ≤ a ∧ a < (tN T : Int)
  · rw [if_pos ha, if_neg (by omega), m_isIn, Option.bind_some]
    simp only []
    obtain ⟨k, rfl⟩ := Int.eq_ofNat_of_zero_le ha.1
    rw [Int.toNat_natCast]
    have e1 : w32 (1 + (k : Int)) = ((1 + k : Nat) : Int) := by rw [w32_i (by omega) (by omega)]; omega
    by_cases hb : 0 ≤ b ∧ b ≤ 1
    · rw [if_pos hb, if_neg (by omega), e_M_drive_23, if_neg (by omega), e1]
      constructor
      · rintro ⟨-, -, hne⟩
        obtain ⟨s1, e2, m1⟩ := m_changed (D + 1) hm hK hU hbs (i := 1 + k) (by omega) hne
        rw [e2, Option.bind_some]
        exact ⟨s1, rfl, m1⟩
      · intro hc
        have heq : w (1 + k) = b := by
          by_cases e : w (1 + k) = b
          · exact e
          · exact absurd ⟨ha, by omega, e⟩ hc
        rw [e_M_isChanged, if_neg (by omega), inB_n (by omega), Int.toNat_natCast, hm.2.1 _ (by omega), if_pos heq, m_ref14, Option.bind_some]
        rfl
    · rw [if_neg hb, if_pos rfl, l0]
      exact ⟨fun h => by have := h.2.1; omega, fun _ => rfl⟩
  · rw [if_neg ha, if_pos rfl, l0]
    exact ⟨fun h => absurd h.1 ha, fun _ => rfl⟩
/-- a guest goes to a seat -/
def cSit (T : Tab) (w : Nat → Int) (a b : Int) : Prop := (0 ≤ a ∧ a < (tG T : Int)) ∧ (0 ≤ b ∧ b < (tN T : Int)) ∧ who w (tG T) b = -1
theorem sit_se (hw : Wf T w) {k : Nat} {b : Int} (hk : k < tG T) (hb : 0 ≤ b ∧ b < (tN T : Int)) (hn : who w (tG T) b = -1) : Se T w (upW w (10 + 2 * k) b) := by
  have hno : ∀ i, i < tG T → w (10 + 2 * i) ≠ b := fun i hi => by
    rcases who_or w (tG T) b with ⟨-, h2⟩ | ⟨j, -, h3, -⟩
    · exact h2 i hi
    · omega
  refine ⟨upW_o (by omega), fun q hq => upW_o (by omega), fun j hj => upW_o (by omega), fun j hj => ?_, fun i j hi hj e => ?_⟩
  · by_cases e : j = k
    · rw [e, upW_s]; exact hb
    · rw [upW_o (by omega)]; exact (hw.2.2.1 j hj).1
  · by_cases e1 : i = k
    · by_cases e2 : j = k
      · omega
      · rw [e1, upW_s, upW_o (by omega)] at e
        exact absurd e.symm (hno j hj)
    · by_cases e2 : j = k
      · rw [e2, upW_s, upW_o (by omega)] at e
        exact absurd e (hno i hi)
      · rw [upW_o (by omega), upW_o (by omega)] at e
        exact hw.2.2.2 i j hi hj e
theorem x_sit (D : Nat) {s : Mem} (hx : XM s T w) (ht : Tf T) (hw : Wf T w) (hK : KX s K) (hU : XU s T nx U) (a b : Int) : (cSit T w a b → ∃ s1, f_X_sit (D + 4) a b s = some (1, s1) ∧ XAct s s1 T (upW w (10 + 2 * a.toNat) b) K ((nx + 1) % 20) (((w, K) :: U).take 20)) ∧ (¬ cSit T w a b → f_X_sit (D + 4) a b s = some (0, wI s 83 2 (w32 (rI s 83 2 + 1)))) := by
  have hn := ht.2.1
  have hg := ht.2.2.1
  have href : f_X_refuse (D + 3) 2 s = some (0, wI s 83 2 (w32 (rI s 83 2 + 1))) := x_ref (D + 2) s (k := 2) (by omega)
  rw [e_X_sit, x_isG (D + 2) hx ht, Option.bind_some]
  simp only []
  unfold cSit
  by_cases ha : 0 ≤ a ∧ a < (tG T : Int)
  · rw [if_pos ha, if_neg (by omega), x_isS (D + 2) hx ht, Option.bind_some]
    simp only []
    by_cases hb : 0 ≤ b ∧ b < (tN T : Int)
    · obtain ⟨k, rfl⟩ := Int.eq_ofNat_of_zero_le ha.1
      obtain ⟨q, rfl⟩ := Int.eq_ofNat_of_zero_le hb.1
      have h8 : rI s 32 q = who w (tG T) (q : Int) := hx.1.2.2.2.2.2.2.2 q (by omega)
      rw [if_pos hb, if_neg (by omega), inB_n (by omega), Int.toNat_natCast, h8, Int.toNat_natCast]
      constructor
      · rintro ⟨-, -, hne⟩
        obtain ⟨s1, e1, f1, x1, k1, u1, p1, p2⟩ := x_begin D hx ht hK hU
        have f2 : Fr (fun a _ => a = 28 + 1) s1 (wI s1 29 k (q : Int)) := Fr.rf.w (P := fun a _ => a = 28 + 1) rfl
        obtain ⟨s2, e2, f3, x3⟩ := x_reseat (D + 2) x1.1 ht hw f2 (w' := upW w (10 + 2 * k) (q : Int)) (fun j hj => by
          by_cases e : j = k
          · rw [e, upW_s]; exact rI_same _ _ _ _
          · rw [rI_other _ _ _ _ (by omega), upW_o (by omega)]; exact x1.1.2.2.2.2.1 j hj) (sit_se hw (by omega) hb hne)
        have hT6 := x1.1.2.1.1
        rw [if_pos hne, e1, Option.bind_some, inB_n (by omega)]
        simp only []
        rw [e2, Option.bind_some]
        exact ⟨s2, rfl, (f1.mo (fun a i q => by omega)).tr (f3.mo (fun a i q => by omega)), ⟨x3, by rw [f3.q (by omega), f3.q (by omega)]; exact x1.2⟩, k1.fr f3 (fun a i q => by omega), u1.fr f3 (fun a i q => by omega), (f3.i (by omega)).trans p1, (f3.i (by omega)).trans p2⟩
      · intro hc
        rw [if_neg (fun e => hc ⟨ha, hb, e⟩), href, Option.bind_some]
    · rw [if_neg hb, if_pos rfl, href, Option.bind_some]
      exact ⟨fun h => absurd h.2.1 hb, fun _ => rfl⟩
  · rw [if_neg ha, if_pos rfl, href, Option.bind_some]
    exact ⟨fun h => absurd h.1 ha, fun _ => rfl⟩
theorem m_sit (D : Nat) {s : Mem} (hm : MM s T w) (ht : Tf T) (hw : Wf T w) (hK : MK s K) (hU : MU s nx U) (hbs : bsOk s) (a b : Int) : (cSit T w a b → ∃ s1, f_M_sit (D + 4) a b s = some (1, s1) ∧ MAct s s1 T (upW w (10 + 2 * a.toNat) b) K ((nx + 1) % 20) (((w, K) :: U).take 20)) ∧ (¬ cSit T w a b → f_M_sit (D + 4) a b s = some (0, wI s 86 2 (w32 (rI s 86 2 + 1)))) := by
  have hn := ht.2.1
  have hg := ht.2.2.1
  have l0 : L_M_sit_31 (D + 3) a b 0 s = some (0, wI s 86 2 (w32 (rI s 86 2 + 1))) := by
    rw [e_M_sit_31, if_pos rfl, e_M_isChanged, if_pos rfl, m_ref14, Option.bind_some]
    rfl
  rw [e_M_sit, m_isG (D + 1) hm.1 hg, Option.bind_some]
  simp only []
  unfold cSit
  by_cases ha : 0 ≤ a ∧ a < (tG T : Int)
  · rw [if_pos ha, if_neg (by omega), m_isS (D + 1) hm.1 hn, Option.bind_some]
    simp only []
    by_cases hb : 0 ≤ b ∧ b < (tN T : Int)
    · have htr : trn (tN T) b = b := by unfold trn; rw [if_neg (by omega), if_pos hb.2]
      rw [if_pos hb, if_neg (by omega), m_guestAt D hm.1 hm.2.1 hn hg (by omega), htr, Option.bind_some]
      simp only []
      obtain ⟨k, rfl⟩ := Int.eq_ofNat_of_zero_le ha.1
      rw [Int.toNat_natCast]
      constructor
      · rintro ⟨-, -, hne⟩
        have hseat : w (10 + 2 * k) ≠ b := fun e => by
          have := who_at hw (k := k) (by omega) e
          omega
        obtain ⟨s1, e2, m1⟩ := m_changed (D + 1) hm hK hU hbs (i := 10 + 2 * k) (by omega) hseat
        rw [if_pos hne, e_M_sit_31, if_neg (by omega), w32_10 (by omega), e2, Option.bind_some]
        exact ⟨s1, rfl, m1⟩
      · intro hc
        rw [if_neg (fun e => hc ⟨ha, hb, e⟩), l0]
    · rw [if_neg hb, if_pos rfl, l0]
      exact ⟨fun h => absurd h.2.1 hb, fun _ => rfl⟩
  · rw [if_neg ha, if_pos rfl, l0]
    exact ⟨fun h => absurd h.1 ha, fun _ => rfl⟩
/-- a guest has another swell -/
def cSay (T : Tab) (w : Nat → Int) (a b : Int) : Prop := (0 ≤ a ∧ a < (tG T : Int)) ∧ (0 ≤ b ∧ b ≤ 99) ∧ w (11 + 2 * a.toNat) ≠ b
theorem x_say (D : Nat) {s : Mem} (hx : XM s T w) (ht : Tf T) (hK : KX s K) (hU : XU s T nx U) (a b : Int) : (cSay T w a b → ∃ s1, f_X_say (D + 4) a b s = some (1, s1) ∧ XAct s s1 T (upW w (11 + 2 * a.toNat) b) K ((nx + 1) % 20) (((w, K) :: U).take 20)) ∧ (¬ cSay T w a b → f_X_say (D + 4) a b s = some (0, wI s 83 2 (w32 (rI s 83 2 + 1)))) := by
  have hg := ht.2.2.1
  have href : f_X_refuse (D + 3) 2 s = some (0, wI s 83 2 (w32 (rI s 83 2 + 1))) := x_ref (D + 2) s (k := 2) (by omega)
  rw [e_X_say, x_isG (D + 2) hx ht, Option.bind_some]
  simp only []
  unfold cSay
  by_cases ha : 0 ≤ a ∧ a < (tG T : Int)
  · obtain ⟨k, rfl⟩ := Int.eq_ofNat_of_zero_le ha.1
    have h6 : rI s 30 k = w (11 + 2 * k) := hx.1.2.2.2.2.2.1 k (by omega)
    rw [if_pos ha, if_neg (by omega), inB_n (by omega), Int.toNat_natCast, h6]
    constructor
    · rintro ⟨-, hb, hne⟩
      obtain ⟨s1, e1, f1, x1, k1, u1, p1, p2⟩ := x_begin D hx ht hK hU
      have f2 : Fr (fun a _ => a = 30) s1 (wI s1 30 k b) := Fr.rf.w (P := fun a _ => a = 30) rfl
      rw [if_neg (by omega), if_neg (by omega), if_neg hne, e1, Option.bind_some, inB_n (by omega)]
      refine ⟨_, rfl, (f1.mo (fun a i q => by omega)).tr (f2.mo (fun a i q => by omega)), ⟨x1.1.sw f2 (fun a i q => by omega) (Sw.upd k b) (fun j hj => ?_), x1.2⟩, k1.fr f2 (fun a i q => by omega), u1.fr f2 (fun a i q => by omega), (f2.i (by omega)).trans p1, (f2.i (by omega)).trans p2⟩
      by_cases e : j = k
      · rw [e, upW_s]; exact rI_same _ _ _ _
      · rw [rI_other _ _ _ _ (by omega), upW_o (by omega)]; exact x1.1.2.2.2.2.2.1 j hj
    · intro hc
      by_cases b1 : b < 0
      · rw [if_pos b1, href, Option.bind_some]
      · rw [if_neg b1]
        by_cases b2 : 99 < b
        · rw [if_pos b2, href, Option.bind_some]
        · rw [if_neg b2]
          by_cases b3 : w (11 + 2 * k) = b
          · rw [if_pos b3, href, Option.bind_some]
          · exact absurd ⟨ha, by omega, b3⟩ hc
  · rw [if_neg ha, if_pos rfl, href, Option.bind_some]
    exact ⟨fun h => absurd h.1 ha, fun _ => rfl⟩
theorem m_say (D : Nat) {s : Mem} (hm : MM s T w) (ht : Tf T) (hK : MK s K) (hU : MU s nx U) (hbs : bsOk s) (a b : Int) : (cSay T w a b → ∃ s1, f_M_say (D + 4) a b s = some (1, s1) ∧ MAct s s1 T (upW w (11 + 2 * a.toNat) b) K ((nx + 1) % 20) (((w, K) :: U).take 20)) ∧ (¬ cSay T w a b → f_M_say (D + 4) a b s = some (0, wI s 86 2 (w32 (rI s 86 2 + 1)))) := by
  have hg := ht.2.2.1
  have l0 : L_M_say_26 (D + 3) a b 0 s = some (0, wI s 86 2 (w32 (rI s 86 2 + 1))) := by
    rw [e_M_say_26, if_pos rfl, e_M_isChanged, if_pos rfl, m_ref14, Option.bind_some]
    rfl
  rw [e_M_say, m_isG (D + 1) hm.1 hg, Option.bind_some]
  simp only []
  unfold cSay
  by_cases ha : 0 ≤ a ∧ a < (tG T : Int)
  · rw [if_pos ha, if_neg (by omega), m_isIn, Option.bind_some]
    simp only []
    obtain ⟨k, rfl⟩ := Int.eq_ofNat_of_zero_le ha.1
    rw [Int.toNat_natCast]
    by_cases hb : 0 ≤ b ∧ b ≤ 99
    · rw [if_pos hb, if_neg (by omega), e_M_say_26, if_neg (by omega), w32_11 (by omega)]
      constructor
      · rintro ⟨-, -, hne⟩
        obtain ⟨s1, e2, m1⟩ := m_changed (D + 1) hm hK hU hbs (i := 11 + 2 * k) (by omega) hne
        rw [e2, Option.bind_some]
        exact ⟨s1, rfl, m1⟩
      · intro hc
        have heq : w (11 + 2 * k) = b := by
          by_cases e : w (11 + 2 * k) = b
          · exact e
          · exact absurd ⟨ha, hb, e⟩ hc
        rw [e_M_isChanged, if_neg (by omega), inB_n (by omega), Int.toNat_natCast, hm.2.1 _ (by omega), if_pos heq, m_ref14, Option.bind_some]
        rfl
    · rw [if_neg hb, if_pos rfl, l0]
      exact ⟨fun h => by have := h.2.1; omega, fun _ => rfl⟩
  · rw [if_neg ha, if_pos rfl, l0]
    exact ⟨fun h => absurd h.1 ha, fun _ => rfl⟩
theorem x_minutes (D : Nat) {s : Mem} (hx : XM s T w) (ht : Tf T) (hw : Wf T w) (hK : KX s K) (hU : XU s T nx U) (a : Int) : (cpc w a 1 100 → ∃ s1, f_X_minutes (D + 7) a s = some ((bns T a.toNat w : Int), s1) ∧ XAct s s1 T (mns T a.toNat w) (kmn T a.toNat w K) ((nx + 1) % 20) (((w, K) :: U).take 20)) ∧ (¬ cpc w a 1 100 → f_X_minutes (D + 7) a s = some (-1, wI s 83 3 (w32 (rI s 83 3 + 1)))) := by
  have href : f_X_refuse (D + 6) 3 s = some (0, wI s 83 3 (w32 (rI s 83 3 + 1))) := x_ref (D + 5) s (k := 3) (by omega)
  rw [e_X_minutes, x_can (D + 4) hx ht hw a (by omega) (by omega), Option.bind_some]
  simp only []
  by_cases hc : cpc w a 1 100
  · obtain ⟨n, rfl⟩ := Int.eq_ofNat_of_zero_le (show 0 ≤ a by have := hc.1; omega)
    have hc2 := hc.2
    obtain ⟨s1, e1, f1, x1, k1, u1, p1, p2⟩ := x_begin (D + 3) hx ht hK hU
    obtain ⟨s2, e2, f2, x2, k2⟩ := x_goL D (n := n) x1.1 ht hw k1 (by omega) (by omega)
    rw [if_pos hc, if_neg (by omega), e1, Option.bind_some]
    simp only []
    rw [e2, Option.bind_some, Int.toNat_natCast]
    exact ⟨fun _ => ⟨s2, rfl, (f1.mo (fun a i q => by omega)).tr (f2.mo (fun a i q => by unfold PTL at q; omega)), ⟨x2, by rw [f2.q (by unfold PTL; omega), f2.q (by unfold PTL; omega)]; exact x1.2⟩, k2, u1.fr f2 (fun a i q => by unfold PTL at q; omega), (f2.i (by unfold PTL; omega)).trans p1, (f2.i (by unfold PTL; omega)).trans p2⟩, fun h => absurd hc h⟩
  · rw [if_neg hc, if_pos rfl, href, Option.bind_some]
    exact ⟨fun h => absurd h hc, fun _ => rfl⟩
theorem m_refs (D : Nat) (s : Mem) {k : Nat} (hk : k < 6) : f_M_refuses (D + 1) (k : Int) s = some (-1, wI s 86 k (w32 (rI s 86 k + 1))) := by
  rw [e_M_refuses, inB_n hk, inB_n hk, Int.toNat_natCast]
theorem m_minutes (D : Nat) {s : Mem} (hm : MM s T w) (ht : Tf T) (hw : Wf T w) (hK : MK s K) (hU : MU s nx U) (hbs : bsOk s) (a : Int) : (cpc w a 1 100 → ∃ s1, f_M_minutes (D + 12) a s = some ((bns T a.toNat w : Int), s1) ∧ MAct s s1 T (mns T a.toNat w) (kmn T a.toNat w K) ((nx + 1) % 20) (((w, K) :: U).take 20)) ∧ (¬ cpc w a 1 100 → f_M_minutes (D + 12) a s = some (-1, wI s 86 3 (w32 (rI s 86 3 + 1)))) := by
  have href : f_M_refuses (D + 11) 3 s = some (-1, wI s 86 3 (w32 (rI s 86 3 + 1))) := m_refs (D + 10) s (k := 3) (by omega)
  rw [e_M_minutes, m_can (D + 9) hm hw a (by omega) (by omega), Option.bind_some]
  simp only []
  by_cases hc : cpc w a 1 100
  · obtain ⟨n, rfl⟩ := Int.eq_ofNat_of_zero_le (show 0 ≤ a by have := hc.1; omega)
    have hc2 := hc.2
    obtain ⟨s1, e1, f1, u1⟩ := m_keeps (D + 10) (w := w) (K := K) hm.2.1 hK hU
    have m1 : MM s1 T w := hm.fr f1 (fun a j q => by unfold PKe at q; omega) (fun a j q => by unfold PKe at q; omega)
    have hK1 : MK s1 K := hK.fr f1 (fun a j q => by unfold PKe at q; omega)
    obtain ⟨bs, b1, b2⟩ := hbs.fr f1 (by unfold PKe; omega)
    have f2 : Fr (fun a i => a = 84 ∧ i = 58) s1 (wI s1 84 58 0) := Fr.rf.w ⟨rfl, rfl⟩
    obtain ⟨h1, h2, h3, h4, h5⟩ := m1
    obtain ⟨s3, b3, e3, f3, g1, g2, g3, g4, g5, g6⟩ := m_go7 D ht (th := false) n n 0 w (wI s1 84 58 0) K 0 bs (by omega) (by omega) (by omega) hw (by omega) (h1.fr f2 (fun a j q => by omega)) (h2.fr f2 (fun a j q => by omega)) (Or.inr ⟨rfl, (f2.i (by omega)).trans h5, hK1.fr f2 (fun a j q => by omega)⟩) (rI_same _ _ _ _) ((f2.i (by omega)).trans b1) b2
    have hp : ∀ p i, PMm false p i → (p = 84 → i ≠ 49 ∧ i ≠ 53 ∧ i ≠ 70 ∧ i ≠ 71) ∧ p ≠ 129 ∧ PMa p i := fun p i q => by
      rcases q with q | q | q | q
      · exact ⟨by omega, by omega, by unfold PMa; omega⟩
      · exact ⟨by omega, by omega, by unfold PMa; omega⟩
      · exact ⟨by omega, by omega, by unfold PMa; omega⟩
      · exact ⟨by omega, by omega, by unfold PMa; omega⟩
    rw [Nat.zero_add] at g4
    rcases g3 with ⟨q, -⟩ | ⟨-, g57, gK⟩
    · cases q
    · rw [if_pos hc, if_neg (by omega), e1, Option.bind_some]
      simp only []
      rw [show f_M_minutesGo (D + 11) (n : Int) s1 = some (0, s3) from (e_M_minutesGo (D + 10) n s1).trans e3, Option.bind_some, Int.toNat_natCast]
      simp only []
      rw [g4]
      refine ⟨fun _ => ⟨s3, rfl, ((f1.mo (fun a j q => by unfold PKe at q; unfold PMa; omega)).tr (f2.mo (fun a j q => by unfold PMa; omega))).tr (f3.mo (fun p i q => (hp p i q).2.2)), ⟨g1, g2, ?_, ?_, g57⟩, gK, (u1.fr f2 (fun a j q => by omega)).fr f3 (fun p i q => by have := hp p i q; omega), b3, g5, g6⟩, fun h => absurd hc h⟩
      · rw [f3.i (fun q => by have := hp _ _ q; omega), f2.i (by omega)]; exact h3
      · rw [f3.i (fun q => by have := hp _ _ q; omega), f2.i (by omega)]; exact h4
  · rw [if_neg hc, if_pos rfl, href, Option.bind_some]
    exact ⟨fun h => absurd h hc, fun _ => rfl⟩
end ACTS
