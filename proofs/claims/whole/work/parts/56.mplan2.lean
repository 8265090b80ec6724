/-! the reference: who bursts, hoops, change -/
theorem bits_tab : ∀ a : Fin 1024, a.val ≠ 0 → (a.val &&& (a.val - 1)) < a.val ∧ pcn 10 (a.val &&& (a.val - 1)) + 1 = pcn 10 a.val := by decide +kernel
theorem m_bits4 (D : Nat) (s : Mem) : ∀ (a c : Nat), a < 1024 → c + pcn 10 a < 1000 → L_M_bits_4 D (c : Int) (a : Int) s = some (((c + pcn 10 a : Nat) : Int), s) := by
  intro a
  induction a using Nat.strongRecOn with
  | _ a ih =>
    intro c ha hc
    rw [e_M_bits_4]
    by_cases h : a = 0
    · subst h
      rw [if_pos (by omega), show pcn 10 0 = 0 from rfl, Nat.add_zero]
    · obtain ⟨h1, h2⟩ := bits_tab ⟨a, ha⟩ h
      rw [if_neg (by omega), w32_s (by omega), show w32 ((a : Int) - 1) = ((a - 1 : Nat) : Int) by rw [w32_i (by omega) (by omega)]; omega, iAnd_nat (by omega) (by omega)]
      simp only [] at h1 h2
      rw [ih _ h1 (c + 1) (by omega) (by omega), ← h2]
      congr 2
      omega
theorem m_bits (D : Nat) (s : Mem) {a : Nat} (ha : a < 1024) : f_M_bits (D + 1) (a : Int) s = some (((pcn 10 a : Nat) : Int), s) := by
  rw [e_M_bits]
  have hb : ∀ a : Fin 1024, pcn 10 a.val ≤ 10 := by decide +kernel
  have hb2 := hb ⟨a, ha⟩
  simp only [] at hb2
  have := m_bits4 D s a 0 ha (by omega)
  rw [Nat.zero_add] at this
  exact this
section MPLAN2
variable {T : Tab} {w w0 : Nat → Int}
theorem m_bursts19 (D : Nat) (ht : Tf T) {k : Nat} (hk : k < tG T) {w0 : Nat → Int} : ∀ (j n : Nat) (w : Nat → Int) (s : Mem) (bs : Nat), n + j = 60 → Wf T w → w 0 ≤ 999 → MT s T → MW s w → MA s w0 → rI s 84 57 = 1 → rI s 84 49 = 1 → rI s 84 59 = (bs : Int) → bs < 128 → ¬ bs / 2 ^ k % 2 = 1 → ∃ s1, L_M_bursts_19 (D + 10) (k : Int) (-1) (n : Int) s = some (fbu T k j n w, s1) ∧ Fr PQ s s1 ∧ MW s1 w0 ∧ rI s1 84 53 = -1 ∧ Zb s1 := by
  intro j
  induction j with
  | zero =>
    intro n w s bs hn hf h9 hm hw ha h57 h49 h59 hbs hbit
    obtain ⟨s3, e3, f3, m3, h53, g57⟩ := m_back (D + 8) (T := T) (w := w) (w0 := w0) ⟨hm, hw, ha, h57, h49, bs, h59, hbs⟩
    rw [e_M_bursts_19, if_neg (by omega), e3, Option.bind_some]
    exact ⟨s3, rfl, f3.mo Pb_Q, m3, h53, g57⟩
  | succ j ih =>
    intro n w s bs hn hf h9 hm hw ha h57 h49 h59 hbs hbit
    have hg := ht.2.2.1
    unfold fbu
    rw [e_M_bursts_19, if_pos (by omega), hw 0 (by omega)]
    by_cases h : w 0 < 999
    · obtain ⟨s1, b1, e1, f1, hw1, -, g58, g59, gb, g6⟩ := m_minute D (th := true) (K := []) hm hw hf ht (Or.inl ⟨rfl, h57⟩) h59 hbs
      have hl := mnt_len (T := T) (w := w)
      have hp : ∀ a i, PMm true a i → (a ≠ 84 ∨ (i ≠ 49 ∧ i ≠ 57)) ∧ a ≠ 123 := fun a i q => by
        rcases q with q | q | q | q <;> omega
      have ha1 : MA s1 w0 := ha.fr f1 (fun a i q => (hp a i q).2)
      have k57 : rI s1 84 57 = 1 := (f1.i (fun q => by have := (hp _ _ q).1; omega)).trans h57
      have k49 : rI s1 84 49 = 1 := (f1.i (fun q => by have := (hp _ _ q).1; omega)).trans h49
      rw [if_pos h, if_pos h, if_pos rfl, e1, Option.bind_some]
      simp only []
      rw [g59, bit_n (by omega) (by omega), w32_s (by omega)]
      have g6k := g6 k (by omega)
      cases hb : bin1 k (mnt T w).2
      · have hnb : ¬ b1 / 2 ^ k % 2 = 1 := fun q => by
          rcases g6k.mp q with z | z
          · exact hbit z
          · rw [hb] at z; cases z
        rw [if_neg (by omega)]
        simp only [Bool.false_eq_true, if_false]
        obtain ⟨s2, e2, f2, rest⟩ := ih (n + 1) (mnt T w).1 s1 b1 (by omega) (mnt_w hf (by omega)) (by rw [mnt_0 hf]; omega) (hm.fr f1 PMm_T) hw1 ha1 k57 k49 g59 gb hnb
        exact ⟨s2, e2, (f1.mo PMm_Q).tr f2, rest⟩
      · rw [if_pos (by have := g6k.mpr (Or.inr hb); omega)]
        simp only [if_true]
        -- found: the loop's end
        obtain ⟨s3, e3, f3, m3, h53, g57⟩ := m_back (D + 8) (T := T) (w := (mnt T w).1) (w0 := w0) ⟨hm.fr f1 PMm_T, hw1, ha1, k57, k49, b1, g59, gb⟩
        have last : L_M_bursts_19 (D + 10) (k : Int) (n : Int) ((n + 1 : Nat) : Int) s1 = some ((n : Int), s3) := by
          rw [e_M_bursts_19, if_neg (show ¬ (n : Int) = -1 by omega), show f_M_takesBack (D + 10) s1 = some (0, s3) from e3]
          split
          · split <;> rfl
          · rfl
        rw [last]
        exact ⟨s3, rfl, (f1.mo PMm_Q).tr (f3.mo Pb_Q), m3, h53, g57⟩
    · obtain ⟨s3, e3, f3, m3, h53, g57⟩ := m_back (D + 8) (T := T) (w := w) (w0 := w0) ⟨hm, hw, ha, h57, h49, bs, h59, hbs⟩
      rw [if_neg h, if_neg h, e3, Option.bind_some]
      exact ⟨s3, rfl, f3.mo Pb_Q, m3, h53, g57⟩
theorem m_burstsG (D : Nat) {s : Mem} (hm : MM s T w) (ht : Tf T) (hf : Wf T w) (h9 : w 0 ≤ 999) (a : Int) : ∃ s1, f_M_bursts (D + 11) a s = some (sBursts T w a, s1) ∧ Fr PQ s s1 ∧ MM s1 T w ∧ (bsO s → bsO s1) := by
  have hg := ht.2.2.1
  unfold sBursts
  rw [e_M_bursts, m_isG (D + 8) hm.1 hg, Option.bind_some]
  simp only []
  by_cases ha : 0 ≤ a ∧ a < (tG T : Int)
  · obtain ⟨k, rfl⟩ := Int.eq_ofNat_of_zero_le ha.1
    obtain ⟨s1, e1, f1, m1, h59, -⟩ := m_aside (D + 9) hm
    rw [if_pos ha, if_pos ha, if_neg (by omega), e1, Option.bind_some, Int.toNat_natCast]
    obtain ⟨s2, e2, f2, g1, g2, g3⟩ := m_bursts19 D ht (k := k) (by omega) 60 0 w s1 0 rfl hf h9 m1.1 m1.2.1 m1.2.2.1 m1.2.2.2.1 m1.2.2.2.2.1 h59 (by omega) (by simp)
    have ff : Fr PQ s s2 := (f1.mo PAs_Q).tr f2
    exact ⟨s2, e2, ff, hm.of ff g1 g2 g3.1, fun _ => g3.2⟩
  · rw [if_neg ha, if_neg ha, if_pos rfl]
    exact ⟨s, rfl, Fr.rf, hm, id⟩
/-- no hoops behind the last seat -/
def Wh (T : Tab) (w : Nat → Int) : Prop := ∀ q, tN T ≤ q → q < 9 → w (1 + q) = 0
theorem bit_hi {n a q : Nat} (ha : a < 2 ^ n) (hq : n ≤ q) : a / 2 ^ q = 0 := Nat.div_eq_of_lt (Nat.lt_of_lt_of_le ha (Nat.pow_le_pow_right (by omega) hq))
theorem m_hoops53 (D : Nat) (ht : Tf T) (hh : Wh T w) {n : Nat} {c : Int} {set : Nat} (hset : set < 2 ^ tN T) : ∀ (j f : Nat) (s : Mem), f + j = tN T → MT s T → (∀ i, i < 24 → rI s 122 i = if 1 ≤ i ∧ i < 1 + f then ((set / 2 ^ (i - 1) % 2 : Nat) : Int) else w i) → ∃ s1, L_M_hoops_53 (D + 11) (n : Int) c (set : Int) (f : Int) s = ((f_M_minutesGo (D + 11) (n : Int) s1).bind fun p2 => if rI p2.2 84 58 = 0 then ((f_M_triesAnew (D + 11) p2.2).bind fun p3 => L_M_hoops_21 (D + 11) (n : Int) (set : Int) (w32 ((set : Int) + 1)) p3.2) else (f_M_triesAnew (D + 11) p2.2).bind fun p3 => L_M_hoops_21 (D + 11) (n : Int) c (w32 ((set : Int) + 1)) p3.2) ∧ Fr (fun a i => a = 122 ∧ i < 24) s s1 ∧ MW s1 (whp w set)
  | 0, f, s, hj, hm, hw => by
    have hn := ht.2.1
    rw [e_M_hoops_53, m_n (D + 10) hm, Option.bind_some, if_neg (by simp; omega)]
    refine ⟨s, rfl, Fr.rf, fun i hi => ?_⟩
    rw [hw i hi]
    unfold whp
    by_cases h1 : 1 ≤ i ∧ i < 10
    · rw [if_pos h1]
      by_cases h2 : 1 ≤ i ∧ i < 1 + f
      · rw [if_pos h2]
      · rw [if_neg h2, bit_hi hset (by omega)]
        have := hh (i - 1) (by omega) (by omega)
        rw [show 1 + (i - 1) = i by omega] at this
        exact this
    · rw [if_neg h1, if_neg (by omega)]
  | j + 1, f, s, hj, hm, hw => by
    have hn := ht.2.1
    have hp : 2 ^ tN T ≤ 2 ^ 9 := Nat.pow_le_pow_right (by omega) hn
    have e1 : w32 (1 + (f : Int)) = ((1 + f : Nat) : Int) := by rw [w32_i (by omega) (by omega)]; omega
    have f1 : Fr (fun a i => a = 122 ∧ i < 24) s (wI s 122 (1 + f) ((set / 2 ^ f % 2 : Nat) : Int)) := Fr.rf.w (by omega)
    obtain ⟨s1, g1, f2, g2⟩ := m_hoops53 D ht hh (n := n) (c := c) hset j (f + 1) _ (by omega) (hm.fr f1 (fun a i q => by omega)) (fun i hi => by
      by_cases e : i = 1 + f
      · rw [e, rI_same, if_pos (by omega), show 1 + f - 1 = f by omega]
      · rw [rI_other _ _ _ _ (by omega), hw i hi]
        by_cases h2 : 1 ≤ i ∧ i < 1 + f
        · rw [if_pos h2, if_pos (by omega)]
        · rw [if_neg h2, if_neg (by omega)])
    rw [e_M_hoops_53, m_n (D + 10) hm, Option.bind_some, if_pos (by simp; omega), e1, inB_n (by omega), bit_n (by omega) (by omega), w32_s (by omega), Int.toNat_natCast]
    exact ⟨s1, g1, f1.tr f2, g2⟩
theorem m_hoops21 (D : Nat) {n : Nat} (ht : Tf T) (hf : Wf T w) (hh : Wh T w) (hn : n ≤ 999) (hn2 : w 0 + n ≤ 999) : ∀ (j set : Nat) (e : Int) (s : Mem), set + j = 2 ^ tN T → (e = -1 ∨ ∃ b : Nat, e = (b : Int) ∧ b < 512) → MH s T w w → ∃ s1, L_M_hoops_21 (D + 11) (n : Int) e (set : Int) s = some (hpk T n w j set e, s1) ∧ Fr PQ s s1 ∧ MW s1 w ∧ rI s1 84 53 = -1 ∧ Zb s1
  | 0, set, e, s, hj, hb, hm => by
    have hn := ht.2.1
    obtain ⟨s3, e3, f3, m3, h53, g57⟩ := m_back (D + 9) hm
    rw [e_M_hoops_21, m_n (D + 10) hm.1, Option.bind_some]
    simp only []
    rw [iShl_1 (by omega), if_neg (by omega), e3, Option.bind_some]
    exact ⟨s3, rfl, f3.mo Pb_Q, m3, h53, g57⟩
  | j + 1, set, e, s, hj, hb, hm => by
    have hn9 := ht.2.1
    have hp : 2 ^ tN T ≤ 2 ^ 9 := Nat.pow_le_pow_right (by omega) hn9
    -- one set tried
    have try1 : ∃ s1 s2 : Mem, L_M_hoops_53 (D + 11) (n : Int) e (set : Int) 0 s = L_M_hoops_21 (D + 11) (n : Int) (if bns T n (whp w set) = 0 then (set : Int) else e) ((set + 1 : Nat) : Int) s2 ∧ Fr PQ s s2 ∧ MH s2 T w w := by
      obtain ⟨s1, e1, f1, w1⟩ := m_hoops53 D ht hh (n := n) (c := e) (set := set) (by omega) (tN T) 0 s (by omega) hm.1 (fun i hi => by rw [if_neg (by omega)]; exact hm.2.1 i hi)
      obtain ⟨h1, h2, h3, h4, h5, bs, h6, h7⟩ := hm
      have h00 : whp w set 0 = w 0 := if_neg (by omega)
      have m1 : MH s1 T (whp w set) w := ⟨h1.fr f1 (fun a i q => by omega), w1, h3.fr f1 (fun a i q => by omega), (f1.i (by omega)).trans h4, (f1.i (by omega)).trans h5, bs, (f1.i (by omega)).trans h6, h7⟩
      obtain ⟨s2, e2, f2, m2, h58⟩ := m_go D (n := n) ht (hf.hp set) (by rw [h00]; omega) (by omega) m1
      obtain ⟨s3, e3, f3, m3⟩ := m_tries (D + 10) m2
      have ff : Fr PQ s s3 := ((f1.mo Pt_Q).tr (f2.mo PMm_Q)).tr (f3.mo Pt_Q)
      refine ⟨s1, s3, ?_, ff, m3⟩
      rw [show L_M_hoops_53 (D + 11) (n : Int) e (set : Int) 0 s = _ from e1, e2, Option.bind_some]
      simp only []
      rw [h58, e3, Option.bind_some, Option.bind_some, w32_s (by omega)]
      by_cases hz : bns T n (whp w set) = 0
      · rw [if_pos (by omega), if_pos hz]
      · rw [if_neg (by omega), if_neg hz]
    obtain ⟨s1, s2, e2, f2, m2⟩ := try1
    have h21 : L_M_hoops_21 (D + 11) (n : Int) e (set : Int) s = if (e = -1 ∨ pcn 10 set < pcn 10 e.toNat) then L_M_hoops_53 (D + 11) (n : Int) e (set : Int) 0 s else L_M_hoops_21 (D + 11) (n : Int) e ((set + 1 : Nat) : Int) s := by
      rw [e_M_hoops_21, m_n (D + 10) hm.1, Option.bind_some]
      simp only []
      rw [iShl_1 (by omega), if_pos (by omega)]
      rcases hb with rfl | ⟨b, rfl, hb2⟩
      · rw [if_pos rfl, if_pos (Or.inl rfl)]
      · rw [if_neg (by omega), m_bits (D + 10) s (by omega), Option.bind_some]
        simp only []
        rw [m_bits (D + 10) s (by omega), Option.bind_some, Int.toNat_natCast, w32_s (by omega)]
        simp only []
        by_cases h : pcn 10 set < pcn 10 b
        · rw [if_pos (by omega), if_pos (Or.inr h)]
        · rw [if_neg (by omega), if_neg (fun q => by rcases q with q | q <;> omega)]
    rw [h21]
    unfold hpk
    by_cases hc : e = -1 ∨ pcn 10 set < pcn 10 e.toNat
    · rw [if_pos hc, e2]
      by_cases hz : bns T n (whp w set) = 0
      · rw [if_pos hz, if_pos ⟨hc, hz⟩]
        obtain ⟨s4, e4, f4, r4⟩ := m_hoops21 D ht hf hh hn hn2 j (set + 1) (set : Int) s2 (by omega) (Or.inr ⟨set, rfl, by omega⟩) m2
        exact ⟨s4, e4, f2.tr f4, r4⟩
      · rw [if_neg hz, if_neg (fun q => hz q.2)]
        obtain ⟨s4, e4, f4, r4⟩ := m_hoops21 D ht hf hh hn hn2 j (set + 1) e s2 (by omega) hb m2
        exact ⟨s4, e4, f2.tr f4, r4⟩
    · rw [if_neg hc, if_neg (fun q => hc q.1)]
      exact m_hoops21 D ht hf hh hn hn2 j (set + 1) e s (by omega) hb hm
theorem m_hoops (D : Nat) {s : Mem} (hm : MM s T w) (ht : Tf T) (hf : Wf T w) (hh : Wh T w) (a : Int) : ∃ s1, f_M_hoops (D + 12) a s = some (sHoops T w a, s1) ∧ Fr PQ s s1 ∧ MM s1 T w ∧ (bsO s → bsO s1) := by
  unfold sHoops
  rw [e_M_hoops, m_can (D + 9) hm hf a (by omega) (by omega), Option.bind_some]
  simp only []
  by_cases hc : cpc w a 1 30
  · obtain ⟨n, rfl⟩ := Int.eq_ofNat_of_zero_le (show 0 ≤ a by have := hc.1; omega)
    have hc2 := hc.2
    obtain ⟨s1, e1, f1, m1, -⟩ := m_aside (D + 10) hm
    obtain ⟨s2, e2, f2, g1, g2, g3⟩ := m_hoops21 D (n := n) ht hf hh (by omega) (by omega) (2 ^ tN T) 0 (-1) s1 (by omega) (Or.inl rfl) m1
    have ff : Fr PQ s s2 := (f1.mo PAs_Q).tr f2
    rw [if_pos hc, if_pos hc, if_neg (by omega), e1, Option.bind_some]
    exact ⟨s2, e2, ff, hm.of ff g1 g2 g3.1, fun _ => g3.2⟩
  · rw [if_neg hc, if_neg hc, if_pos rfl]
    exact ⟨s, rfl, Fr.rf, hm, id⟩
/-- the change as the reference keeps it -/
def Mh (s : Mem) (c : Int × Int × Int) : Prop := rI s 84 61 = c.1 ∧ rI s 84 62 = c.2.1 ∧ rI s 84 63 = c.2.2
theorem Mh.fr {s s' : Mem} {c : Int × Int × Int} {P : Nat → Nat → Prop} (h : Mh s c) (hf : Fr P s s') (hp : ∀ a i, P a i → a ≠ 84 ∨ i < 61 ∨ 63 < i) : Mh s' c := ⟨(hf.i (fun q => by have := hp _ _ q; omega)).trans h.1, (hf.i (fun q => by have := hp _ _ q; omega)).trans h.2.1, (hf.i (fun q => by have := hp _ _ q; omega)).trans h.2.2⟩
/-- a change is tried: the ring is w' -/
theorem m_try41 (D : Nat) {s : Mem} {n : Nat} {a b : Int} {w' : Nat → Int} (ht : Tf T) (hf : Wf T w') (h0 : w' 0 + n ≤ 999) (hn : n ≤ 999) (hm : MH s T w' w) {c : Int × Int × Int} (hc : rI s 84 63 = -1 ∨ Mh s c ∧ 0 ≤ c.2.2) : ∃ s1, L_M_tryChange_41 (D + 11) a b (n : Int) s = some (0, s1) ∧ Fr PQ s s1 ∧ MH s1 T w w ∧ Mh s1 (if rI s 84 63 = -1 ∨ (bns T n w' : Int) < c.2.2 then (a, b, (bns T n w' : Int)) else c) := by
  obtain ⟨s2, e2, f2, m2, h58⟩ := m_go D (n := n) ht hf (by omega) (by omega) hm
  obtain ⟨s3, e3, f3, m3⟩ := m_tries (D + 10) m2
  have ff : Fr PQ s s3 := (f2.mo PMm_Q).tr (f3.mo Pt_Q)
  have hp : ∀ a i, PMm true a i → a ≠ 84 ∨ i < 61 ∨ 63 < i := fun a i q => by rcases q with q | q | q | q <;> omega
  have h63 : rI s3 84 63 = rI s 84 63 := by rw [f3.i (by omega), f2.i (fun q => by have := hp _ _ q; omega)]
  have h58b : rI s3 84 58 = (bns T n w' : Int) := by rw [f3.i (by omega)]; exact h58
  have set70 : ∃ s1, L_M_tryChange_70 (D + 11) a b s3 = some (0, s1) ∧ Fr PQ s s1 ∧ MH s1 T w w ∧ Mh s1 (a, b, (bns T n w' : Int)) := by
    rw [e_M_tryChange_70, h58b]
    have f4 : Fr (fun a i => a = 84 ∧ (i = 61 ∨ i = 62 ∨ i = 63)) s3 (wI (wI (wI s3 84 61 a) 84 62 b) 84 63 (bns T n w' : Int)) := ((Fr.rf.w (by omega)).w (by omega)).w (by omega)
    obtain ⟨h1, h2, h3, h4, h5, bs, h6, h7⟩ := m3
    exact ⟨_, rfl, ff.tr (f4.mo (fun a i q => by unfold PQ; omega)), ⟨h1.fr f4 (fun a i q => by omega), h2.fr f4 (fun a i q => by omega), h3.fr f4 (fun a i q => by omega), (f4.i (by omega)).trans h4, (f4.i (by omega)).trans h5, bs, (f4.i (by omega)).trans h6, h7⟩, by rw [rI_other _ _ _ _ (by omega), rI_other _ _ _ _ (by omega), rI_same], by rw [rI_other _ _ _ _ (by omega), rI_same], rI_same _ _ _ _⟩
  rw [e_M_tryChange_41, e2, Option.bind_some]
  simp only []
  rw [e3, Option.bind_some]
  simp only []
  rw [h63, h58b]
  by_cases h1 : rI s 84 63 = -1
  · rw [if_pos h1, if_pos (Or.inl h1)]
    exact set70
  · rcases hc with hc | ⟨hc, hc0⟩
    · exact absurd hc h1
    · rw [if_neg h1, hc.2.2]
      by_cases h2 : (bns T n w' : Int) < c.2.2
      · rw [if_pos h2, if_pos (Or.inr h2)]
        exact set70
      · rw [if_neg h2, if_neg (fun q => by rcases q with q | q <;> omega)]
        exact ⟨s3, rfl, ff, m3, (hc.fr f2 hp).fr f3 (fun a i q => by omega)⟩
theorem m_pair (D : Nat) {s : Mem} {n a b : Nat} {c : Int × Int × Int} (ht : Tf T) (hf : Wf T w) (h0 : w 0 + n ≤ 999) (hn : n ≤ 999) (ha : a < tG T) (hb : b < tG T) (hab : a ≠ b) (hm : MH s T w w) (hc : Mh s c) (hc0 : 0 ≤ c.2.2) : ∃ s1, f_M_tryChange (D + 12) (a : Int) (b : Int) (n : Int) s = some (0, s1) ∧ Fr PQ s s1 ∧ MH s1 T w w ∧ Mh s1 (if (bns T n (wex w a b) : Int) < c.2.2 then ((a : Int), (b : Int), (bns T n (wex w a b) : Int)) else c) := by
  have hg := ht.2.2.1
  have hse := wex_se hf ha hb hab
  have f1 : Fr (fun a i => a = 122 ∧ i < 24) s (wI (wI s 122 (10 + 2 * a) (w (10 + 2 * b))) 122 (10 + 2 * b) (w (10 + 2 * a))) := (Fr.rf.w (by omega)).w (by omega)
  obtain ⟨h1, h2, h3, h4, h5, bs, h6, h7⟩ := hm
  have m1 : MH (wI (wI s 122 (10 + 2 * a) (w (10 + 2 * b))) 122 (10 + 2 * b) (w (10 + 2 * a))) T (wex w a b) w := ⟨h1.fr f1 (fun a i q => by omega), (h2.lo _ _).lo _ _, h3.fr f1 (fun a i q => by omega), (f1.i (by omega)).trans h4, (f1.i (by omega)).trans h5, bs, (f1.i (by omega)).trans h6, h7⟩
  have hc1 := hc.fr f1 (fun a i q => by omega)
  obtain ⟨s1, e1, f2, m2, c2⟩ := m_try41 D (n := n) (a := (a : Int)) (b := (b : Int)) ht (hf.se hse) (by rw [hse.1]; exact h0) hn m1 (Or.inr ⟨hc1, hc0⟩)
  rw [e_M_tryChange, if_neg (by omega), m_seatOf (D + 10) h2 (by omega), Option.bind_some]
  simp only []
  rw [m_seatOf (D + 10) h2 (by omega), Option.bind_some]
  simp only []
  rw [w32_10 (by omega), w32_10 (by omega), inB_n (by omega), inB_n (by omega), Int.toNat_natCast, Int.toNat_natCast]
  refine ⟨s1, e1, (f1.mo Pt_Q).tr f2, m2, ?_⟩
  rw [hc1.2.2] at c2
  by_cases q : (bns T n (wex w a b) : Int) < c.2.2
  · rw [if_pos q]; rw [if_pos (Or.inr q)] at c2; exact c2
  · rw [if_neg q]; rw [if_neg (fun z => by rcases z with z | z <;> omega)] at c2; exact c2
theorem m_ch56 (D : Nat) {n a : Nat} {b2 : Int} (ht : Tf T) (hf : Wf T w) (hn : n ≤ 999) (h0 : w 0 + n ≤ 999) (ha : a < tG T) : ∀ (j b : Nat) (c : Int × Int × Int) (s : Mem), a < b → (b + j = tG T ∨ j = 0 ∧ tG T ≤ b) → MH s T w w → Mh s c → 0 ≤ c.2.2 → ∃ s1, L_M_change_56 (D + 12) (n : Int) b2 (a : Int) (b : Int) s = L_M_change_43 (D + 12) (n : Int) b2 ((a + 1 : Nat) : Int) s1 ∧ Fr PQ s s1 ∧ MH s1 T w w ∧ Mh s1 (chB T n w a j b c) ∧ 0 ≤ (chB T n w a j b c).2.2
  | 0, b, c, s, hab, hj, hm, hc, hr => by
    have hg := ht.2.2.1
    rw [e_M_change_56, m_g (D + 11) hm.1, Option.bind_some, if_neg (by simp; omega), w32_s (by omega)]
    exact ⟨s, rfl, Fr.rf, hm, hc, hr⟩
  | j + 1, b, c, s, hab, hj, hm, hc, hr => by
    have hg := ht.2.2.1
    obtain ⟨s1, e1, f1, m1, c1⟩ := m_pair D (a := a) (b := b) ht hf h0 hn ha (by omega) (by omega) hm hc hr
    obtain ⟨s2, e2, f2, m2, c2, c3⟩ := m_ch56 D ht hf hn h0 ha j (b + 1) _ s1 (by omega) (by omega) m1 c1 (by
      split
      · simp only []; omega
      · exact hr)
    rw [e_M_change_56, m_g (D + 11) hm.1, Option.bind_some, if_pos (by simp; omega)]
    simp only []
    rw [e1, Option.bind_some, w32_s (by omega)]
    exact ⟨s2, e2, f1.tr f2, m2, c2, c3⟩
theorem m_ch43 (D : Nat) {n : Nat} {b2 : Int} (ht : Tf T) (hf : Wf T w) (hn : n ≤ 999) (h0 : w 0 + n ≤ 999) : ∀ (j a : Nat) (c : Int × Int × Int) (s : Mem), a + j = tG T → MH s T w w → Mh s c → 0 ≤ c.2.2 → ∃ s1, L_M_change_43 (D + 12) (n : Int) b2 (a : Int) s = some (if b2 = 0 then (chA T n w j a c).1 else if b2 = 1 then (chA T n w j a c).2.1 else (chA T n w j a c).2.2, s1) ∧ Fr PQ s s1 ∧ MW s1 w ∧ rI s1 84 53 = -1 ∧ Zb s1
  | 0, a, c, s, hj, hm, hc, hr => by
    obtain ⟨s3, e3, f3, m3, h53, g57⟩ := m_back (D + 10) hm
    have hc3 := hc.fr f3 (fun a i q => by omega)
    rw [e_M_change_43, m_g (D + 11) hm.1, Option.bind_some, if_neg (by simp; omega), e3, Option.bind_some]
    simp only []
    rw [hc3.1, hc3.2.1, hc3.2.2]
    refine ⟨s3, ?_, f3.mo Pb_Q, m3, h53, g57⟩
    by_cases q1 : b2 = 0
    · rw [if_pos q1, if_pos q1]; rfl
    · rw [if_neg q1, if_neg q1]
      by_cases q2 : b2 = 1
      · rw [if_pos q2, if_pos q2]; rfl
      · rw [if_neg q2, if_neg q2]; rfl
  | j + 1, a, c, s, hj, hm, hc, hr => by
    have hg := ht.2.2.1
    obtain ⟨s1, e1, f1, m1, c1, c2⟩ := m_ch56 D (n := n) (a := a) (b2 := b2) ht hf hn h0 (by omega) (tG T - (a + 1)) (a + 1) c s (by omega) (by omega) hm hc hr
    obtain ⟨s2, e2, f2, rest⟩ := m_ch43 D (b2 := b2) ht hf hn h0 j (a + 1) _ s1 (by omega) m1 c1 c2
    rw [e_M_change_43, m_g (D + 11) hm.1, Option.bind_some, if_pos (by simp; omega), w32_s (by omega)]
    simp only []
    rw [e1]
    exact ⟨s2, e2, f1.tr f2, rest⟩
theorem m_change (D : Nat) {s : Mem} (hm : MM s T w) (ht : Tf T) (hf : Wf T w) (a b : Int) : ∃ s1, f_M_change (D + 13) a b s = some (sChange T w a b, s1) ∧ Fr PQ s s1 ∧ MM s1 T w ∧ (bsO s → bsO s1) := by
  unfold sChange
  rw [e_M_change, m_can (D + 10) hm hf a (by omega) (by omega), Option.bind_some]
  simp only []
  by_cases hc : cpc w a 1 30
  · obtain ⟨n, rfl⟩ := Int.eq_ofNat_of_zero_le (show 0 ≤ a by have := hc.1; omega)
    have hc2 := hc.2
    rw [if_pos hc, if_pos hc, if_neg (by omega), m_isIn (D + 11), Option.bind_some, Int.toNat_natCast]
    simp only []
    by_cases hb : 0 ≤ b ∧ b ≤ 2
    · have f0 : Fr (fun a i => a = 84 ∧ i = 63) s (wI s 84 63 (-1)) := Fr.rf.w ⟨rfl, rfl⟩
      have hm0 : MM (wI s 84 63 (-1)) T w := hm.of (f0.mo (fun a i q => by unfold PQ; omega)) (hm.2.1.fr f0 (fun a i q => by omega)) ((f0.i (by omega)).trans hm.2.2.2.1) ((f0.i (by omega)).trans hm.2.2.2.2)
      obtain ⟨s1, e1, f1, m1, -⟩ := m_aside (D + 11) hm0
      have h63 : rI s1 84 63 = -1 := by rw [f1.i (by unfold PAs; omega), rI_same]
      obtain ⟨s2, e2, f2, m2, c2⟩ := m_try41 D (n := n) (a := -1) (b := -1) (c := (0, 0, 0)) ht hf (by omega) (by omega) m1 (Or.inl h63)
      rw [if_pos (Or.inl h63)] at c2
      obtain ⟨s3, e3, f3, g1, g2, g3⟩ := m_ch43 D (n := n) (b2 := b) ht hf (by omega) (by omega) (tG T) 0 _ s2 (by omega) m2 c2 (by simp only []; omega)
      have ff : Fr PQ s s3 := (((f0.mo (fun a i q => by unfold PQ; omega)).tr (f1.mo PAs_Q)).tr f2).tr f3
      have e2b : f_M_tryChange (D + 12) (-1) (-1) (n : Int) s1 = some (0, s2) := by rw [e_M_tryChange, if_pos rfl]; exact e2
      rw [if_pos hb, if_neg (by omega), e1, Option.bind_some]
      simp only []
      rw [e2b, Option.bind_some]
      refine ⟨s3, ?_, ff, hm.of ff g1 g2 g3.1, fun _ => g3.2⟩
      rw [show L_M_change_43 (D + 12) (n : Int) b 0 s2 = _ from e3]
      unfold chS
      by_cases b3 : b = 0
      · rw [if_pos b3, if_pos b3]
      · rw [if_neg b3, if_neg b3]
        by_cases b4 : b = 1
        · rw [if_pos b4, if_pos b4]
        · rw [if_neg b4, if_neg b4, if_pos (by omega)]
    · rw [if_neg hb, if_pos rfl, if_neg (by omega), if_neg (by omega), if_neg (by omega)]
      exact ⟨s, rfl, Fr.rf, hm, id⟩
  · rw [if_neg hc, if_neg hc, if_pos rfl]
    exact ⟨s, rfl, Fr.rf, hm, id⟩
end MPLAN2
