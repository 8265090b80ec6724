/-! hums: the reference's way -/
def MHu (s : Mem) (hc : Nat) (hf : Nat → Int) : Prop := rI s 84 66 = (hc : Int) ∧ ∀ i, i < 3 * hc → rI s 127 i = hf i
theorem MHu.fr {s s' : Mem} {hc : Nat} {hf : Nat → Int} {P : Nat → Nat → Prop} (h : MHu s hc hf) (hfr : Fr P s s') (hp : ∀ a i, P a i → (a ≠ 84 ∨ i ≠ 66) ∧ a ≠ 127) : MHu s' hc hf := ⟨(hfr.i (fun q => by have := hp _ _ q; omega)).trans h.1, fun i hi => (hfr.i (fun q => by have := hp _ _ q; omega)).trans (h.2 i hi)⟩
theorem PQ_Hu : ∀ a i, PQ a i → (a ≠ 84 ∨ i ≠ 66) ∧ a ≠ 127 := fun a i q => by unfold PQ at q; omega
/-- raw: what is heard at a seat, -1 where nobody is -/
def hrw (T : Tab) (w : Nat → Int) (q : Int) : Int := if who w (tG T) q = -1 then -1 else w (11 + 2 * (who w (tG T) q).toNat)
/-- thought: guest a is as wet as v -/
def MG (s : Mem) (T : Tab) (a v : Nat) : Prop := rI s 84 53 = (a : Int) ∧ rI s 84 54 = (v : Int)
def MWy (s : Mem) (T : Tab) (w : Nat → Int) (a v m : Nat) : Prop := ∀ d q, d < m → q < tN T → rI s 128 (279 * v + 9 * d + q) = hrw T (mns (tWet T a (v : Int)) d w) (q : Int)
section MHUM
variable {T : Tab} {w w0 : Nat → Int} {hc : Nat} {hf : Nat → Int}
theorem m_heardAt (D : Nat) {s : Mem} (hm : MT s T) (hw : MW s w) (ht : Tf T) {q : Int} (h0 : 0 ≤ q) (h1 : q < (tN T : Int)) : f_M_heardAt (D + 4) q s = some (hrw T w q, s) := by
  have hg := ht.2.2.1
  have hn := ht.2.1
  have htr : trn (tN T) q = q := by unfold trn; rw [if_neg (by omega), if_pos h1]
  rw [e_M_heardAt, m_guestAt D hm hw hn hg (by omega), Option.bind_some, htr]
  simp only []
  unfold hrw
  rcases who_or w (tG T) q with ⟨w1, -⟩ | ⟨i, w2, w3, -⟩
  · rw [w1, if_pos rfl, if_pos rfl]
  · rw [w3, if_neg (by omega), if_neg (by omega), m_swellOf (D + 2) hw (by omega), Option.bind_some, Int.toNat_natCast]
theorem w3m {c : Nat} (h : c < 100) : w32 (3 * (c : Int)) = ((3 * c : Nat) : Int) := by rw [w32_i (by omega) (by omega)]; omega
theorem m_asHeard2 (D : Nat) {s : Mem} {m : Nat} (hm : MT s T) (hw : MW s w) (ht : Tf T) (hfw : Wf T w) (hh : MHu s hc hf) (hH : Hf T hc hf) : ∀ (j k : Nat), k + j = hc → L_M_isAsHeard_2 (D + 4) (m : Int) (k : Int) s = some (if soG T w hf m j k then 1 else 0, s)
  | 0, k, hj => by
    rw [e_M_isAsHeard_2, hh.1, if_neg (by omega)]
    rfl
  | j + 1, k, hj => by
    have hg := ht.2.2.1
    have h16 := hH.1
    obtain ⟨r1, r2, r3⟩ := hH.2 k (by omega)
    have ih := m_asHeard2 D (m := m) hm hw ht hfw hh hH j (k + 1) (by omega)
    unfold soG
    rw [e_M_isAsHeard_2, hh.1, if_pos (by omega), w3m (by omega), inB_n (by omega), Int.toNat_natCast, hh.2 _ (by omega), w32b (by omega), inB_n (by omega), inB_n (by omega), Int.toNat_natCast, hh.2 _ (by omega), w32_s (by omega)]
    by_cases h1 : hf (3 * k) = (m : Int)
    · rw [if_pos h1]
      have l55 : ∀ e : Int, (e = if hf (3 * k + 2) = 255 then -1 else hf (3 * k + 2)) → L_M_isAsHeard_55 (D + 4) (m : Int) (k : Int) e s = some (if ((if hf (3 * k) = (m : Int) then decide (w 0 ≤ 999) && decide (hf (3 * k + 2) = hrd T w (hf (3 * k + 1))) else true) && soG T w hf m j (k + 1)) = true then 1 else 0, s) := fun e he => by
        rw [e_M_isAsHeard_55, hw 0 (by omega), if_pos h1]
        by_cases h9 : 999 < w 0
        · rw [if_pos h9, decide_eq_false (by omega)]
          rfl
        · rw [if_neg h9, w3m (by omega), w31 (by omega), inB_n (by omega), Int.toNat_natCast, hh.2 _ (by omega), m_heardAt D hm hw ht r2.1 r2.2, Option.bind_some, w32_s (by omega), decide_eq_true (by omega)]
          simp only []
          have iff : hrw T w (hf (3 * k + 1)) = e ↔ hf (3 * k + 2) = hrd T w (hf (3 * k + 1)) := by
            unfold hrw hrd
            rcases who_or w (tG T) (hf (3 * k + 1)) with ⟨w1, -⟩ | ⟨i, w2, w3, -⟩
            · rw [w1, if_pos rfl, if_pos rfl, he]
              split <;> omega
            · have := (hfw.2.2.1 i w2).2
              rw [w3, if_neg (by omega), if_neg (by omega), Int.toNat_natCast, he]
              split <;> omega
          by_cases h2 : hrw T w (hf (3 * k + 1)) = e
          · rw [if_pos h2, ih, decide_eq_true (iff.mp h2)]
            simp
          · rw [if_neg h2, decide_eq_false (fun q => h2 (iff.mpr q))]
            simp
      by_cases h3 : hf (3 * k + 2) = 255
      · rw [if_pos h3]
        exact l55 (-1) (by rw [if_pos h3])
      · rw [if_neg h3]
        exact l55 _ (by rw [if_neg h3])
    · rw [if_neg h1, if_neg h1, ih, Bool.true_and]
/-- what each seat tells is kept -/
theorem m_ways61 (D : Nat) {s0 : Mem} {b : Int} {c f : Nat} {e : Int} (ht : Tf T) (hc10 : c < 10) (hf30 : f ≤ 30) : ∀ (j g : Nat) (s : Mem), g + j = tN T → MT s T → MW s w → (∀ q, q < g → rI s 128 (279 * c + 9 * f + q) = hrw T w (q : Int)) → ∃ s1, L_M_wetSet_61 (D + 10) b (c : Int) e (f : Int) (g : Int) s = ((f_M_minuteGoes (D + 10) s1).bind fun p2 => L_M_wetSet_30 (D + 10) b (c : Int) e ((f + 1 : Nat) : Int) p2.2) ∧ Fr (fun a i => a = 128 ∧ 279 * c + 9 * f ≤ i ∧ i < 279 * c + 9 * f + 9) s s1 ∧ ∀ q, q < tN T → rI s1 128 (279 * c + 9 * f + q) = hrw T w (q : Int)
  | 0, g, s, hj, hm, hw, hq => by
    rw [e_M_wetSet_61, m_n (D + 9) hm, Option.bind_some, if_neg (by simp; omega), w32_s (by omega)]
    exact ⟨s, rfl, Fr.rf, fun q h => hq q (by omega)⟩
  | j + 1, g, s, hj, hm, hw, hq => by
    have hn := ht.2.1
    have e1 : w32 ((w32 ((w32 (279 * (c : Int))) + (w32 (9 * (f : Int))))) + (g : Int)) = ((279 * c + 9 * f + g : Nat) : Int) := by
      rw [w32_i (z := 279 * (c : Int)) (by omega) (by omega), w32_i (z := 9 * (f : Int)) (by omega) (by omega), w32_i (z := 279 * (c : Int) + 9 * (f : Int)) (by omega) (by omega), w32_i (by omega) (by omega)]
      omega
    have f1 : Fr (fun a i => a = 128 ∧ 279 * c + 9 * f ≤ i ∧ i < 279 * c + 9 * f + 9) s (wI s 128 (279 * c + 9 * f + g) (hrw T w (g : Int))) := Fr.rf.w (by omega)
    obtain ⟨s1, g1, f2, g2⟩ := m_ways61 D (s0 := s0) (b := b) (c := c) (f := f) (e := e) ht hc10 hf30 j (g + 1) _ (by omega) (hm.fr f1 (fun a i q => by omega)) (hw.fr f1 (fun a i q => by omega)) (fun q h => by
      by_cases e : q = g
      · rw [e, rI_same]
      · rw [rI_other _ _ _ _ (by omega)]; exact hq q (by omega))
    rw [e_M_wetSet_61, m_n (D + 9) hm, Option.bind_some, if_pos (by simp; omega), m_heardAt (D + 6) hm hw ht (by omega) (by omega), Option.bind_some]
    simp only []
    rw [e1, inB_n (by omega), Int.toNat_natCast, w32_s (by omega)]
    exact ⟨s1, g1, f1.tr f2, g2⟩
/-- one wetness thought -/
theorem m_wet30 (D : Nat) {b c a : Nat} (ht : Tf T) (hfw : Wf T w) (h99 : w 0 ≤ 999) (hc10 : c < 10) (hH : Hf T hc hf) : ∀ (j f : Nat) (e : Int) (s : Mem), f + j = 31 → (e = 0 ∨ e = 1) → MH s (tWet T a (c : Int)) (mns (tWet T a (c : Int)) f w) w → MHu s hc hf → MWy s T w a c f → ∃ s1 s2, L_M_wetSet_30 (D + 10) (b : Int) (c : Int) e (f : Int) s = ((f_M_triesAnew (D + 10) s1).bind fun p1 => if (if e = 1 ∧ fit (tWet T a (c : Int)) hc hf j f (mns (tWet T a (c : Int)) f w) = true then (1 : Int) else 0) = 0 then (L_M_wetSet_13 (D + 10) (b : Int) ((c + 1 : Nat) : Int) p1.2) else L_M_wetSet_13 (D + 10) (iOr (b : Int) (iShl 1 (c : Int))) ((c + 1 : Nat) : Int) p1.2) ∧ s2 = s1 ∧ Fr (fun p i => PMm true p i ∨ p = 128 ∧ 279 * c ≤ i ∧ i < 279 * c + 279) s s1 ∧ MH s1 (tWet T a (c : Int)) (mns (tWet T a (c : Int)) 31 w) w ∧ MWy s1 T w a c 31
  | 0, f, e, s, hj, he, hm, hh, hwy => by
    have hff : f = 31 := by omega
    subst hff
    rw [e_M_wetSet_30, if_pos (by omega), w32_s (by omega)]
    refine ⟨s, s, ?_, rfl, Fr.rf, hm, hwy⟩
    have hfit : fit (tWet T a (c : Int)) hc hf 0 31 (mns (tWet T a (c : Int)) 31 w) = true := rfl
    rw [hfit]
    rcases he with rfl | rfl
    · simp
    · simp
  | j + 1, f, e, s, hj, he, hm, hh, hwy => by
    have ht2 : Tf (tWet T a (c : Int)) := ht.wet (by omega)
    have hms := mns_w (T := tWet T a (c : Int)) f (hfw.wet a c) (by omega)
    have hH2 : Hf (tWet T a (c : Int)) hc hf := hH
    have so := m_asHeard2 (D + 5) (T := tWet T a (c : Int)) (m := f) hm.1 hm.2.1 ht2 hms.1 hh hH2 hc 0 (by omega)
    -- the check, then the seats, then a minute
    have step : ∃ e' : Int, (e' = 0 ∨ e' = 1) ∧ (e' = 1 ↔ e = 1 ∧ soG (tWet T a (c : Int)) (mns (tWet T a (c : Int)) f w) hf f hc 0 = true) ∧ L_M_wetSet_30 (D + 10) (b : Int) (c : Int) e (f : Int) s = L_M_wetSet_61 (D + 10) (b : Int) (c : Int) e' (f : Int) 0 s := by
      rw [e_M_wetSet_30, if_neg (by omega)]
      rcases he with rfl | rfl
      · rw [if_pos rfl]
        exact ⟨0, Or.inl rfl, ⟨fun h => by omega, fun h => by omega⟩, rfl⟩
      · rw [if_neg (by omega), show f_M_isAsHeard (D + 10) (f : Int) s = _ from (e_M_isAsHeard (D + 9) f s).trans so, Option.bind_some]
        cases hso : soG (tWet T a (c : Int)) (mns (tWet T a (c : Int)) f w) hf f hc 0
        · exact ⟨0, Or.inl rfl, ⟨fun h => by omega, fun h => by cases h.2⟩, rfl⟩
        · exact ⟨1, Or.inr rfl, ⟨fun _ => ⟨rfl, rfl⟩, fun _ => rfl⟩, rfl⟩
    obtain ⟨e', he', hiff, es⟩ := step
    obtain ⟨s1, e1, f1, q1⟩ := m_ways61 D (s0 := s) (T := tWet T a (c : Int)) (b := (b : Int)) (c := c) (f := f) (e := e') ht2 hc10 (by omega) (tN T) 0 s (by show 0 + tN T = tN T; omega) hm.1 hm.2.1 (fun q h => by omega)
    have m1 : MH s1 (tWet T a (c : Int)) (mns (tWet T a (c : Int)) f w) w := hm.fr f1 (fun p i q => by omega)
    obtain ⟨h1, h2, h3, h4, h5, bs, h6, h7⟩ := m1
    obtain ⟨s2, b2, e2, f2, hw2, -, -, g59, gb, -⟩ := m_minute D (th := true) (K := []) h1 h2 hms.1 ht2 (Or.inl ⟨rfl, h4⟩) h6 h7
    have hp : ∀ p i, PMm true p i → (p ≠ 84 ∨ (i ≠ 49 ∧ i ≠ 57 ∧ i ≠ 66)) ∧ p ≠ 123 ∧ p ≠ 127 ∧ p ≠ 128 := fun p i q => by
      rcases q with q | q | q | q <;> omega
    have m2 : MH s2 (tWet T a (c : Int)) (mns (tWet T a (c : Int)) (f + 1) w) w := by
      rw [mns_s]
      exact ⟨h1.fr f2 PMm_T, hw2, h3.fr f2 (fun p i q => (hp p i q).2.1), (f2.i (fun q => by have := (hp _ _ q).1; omega)).trans h4, (f2.i (fun q => by have := (hp _ _ q).1; omega)).trans h5, b2, g59, gb⟩
    have hh2 : MHu s2 hc hf := (hh.fr f1 (fun p i q => by omega)).fr f2 (fun p i q => by have := hp p i q; omega)
    have hwy2 : MWy s2 T w a c (f + 1) := fun d q hd hq => by
      rw [f2.i (fun z => (hp _ _ z).2.2.2 rfl)]
      by_cases hdf : d = f
      · rw [hdf]; exact q1 q hq
      · have hn := ht.2.1
        rw [f1.i (by omega)]
        exact hwy d q (by omega) hq
    obtain ⟨s3, s4, e3, hs4, f3, m3, w3⟩ := m_wet30 D (b := b) (c := c) (a := a) ht hfw h99 hc10 hH j (f + 1) e' s2 (by omega) he' m2 hh2 hwy2
    refine ⟨s3, s4, ?_, hs4, ((f1.mo (fun p i q => Or.inr (by omega))).tr (f2.mo (fun p i q => Or.inl q))).tr f3, m3, w3⟩
    rw [es, show L_M_wetSet_61 (D + 10) (b : Int) (c : Int) e' (f : Int) 0 s = _ from e1, e2, Option.bind_some, e3]
    have hfit : (e' = 1 ∧ fit (tWet T a (c : Int)) hc hf j (f + 1) (mns (tWet T a (c : Int)) (f + 1) w) = true) ↔ (e = 1 ∧ fit (tWet T a (c : Int)) hc hf (j + 1) f (mns (tWet T a (c : Int)) f w) = true) := by
      rw [hiff, mns_s]
      show _ ↔ (e = 1 ∧ (soG (tWet T a (c : Int)) (mns (tWet T a (c : Int)) f w) hf f hc 0 && fit (tWet T a (c : Int)) hc hf j (f + 1) (mnt (tWet T a (c : Int)) (mns (tWet T a (c : Int)) f w)).1) = true)
      rw [Bool.and_eq_true, and_assoc]
    simp only [hfit]
/-- the table as told, whatever is thought -/
def MR (s : Mem) (T : Tab) : Prop := rI s 114 3 = (tN T : Int) ∧ rI s 114 4 = (tG T : Int) ∧ (∀ k, k < tG T → rI s 116 (14 + 2 * k) = tW T k) ∧ (∀ k, k < tG T → rI s 116 (15 + 2 * k) = tH T k) ∧ MC s 0 (tC T 0) ∧ MC s 1 (tC T 1) ∧ MC s 2 (tC T 2)
theorem MR.fr {s s' : Mem} {P : Nat → Nat → Prop} (h : MR s T) (hf : Fr P s s') (hp : ∀ a i, P a i → a ≠ 114 ∧ a ≠ 116 ∧ (a < 119 ∨ 121 < a)) : MR s' T := by
  obtain ⟨h1, h2, h3, h4, h5, h6, h7⟩ := h
  have hn : ∀ a i, (a = 114 ∨ a = 116) → ¬ P a i := fun a i ha q => by have := hp a i q; omega
  have hm : ∀ a i, P a i → a < 119 ∨ 121 < a := fun a i q => (hp a i q).2.2
  exact ⟨(hf.i (hn _ _ (by omega))).trans h1, (hf.i (hn _ _ (by omega))).trans h2, fun k hk => (hf.i (hn _ _ (by omega))).trans (h3 k hk), fun k hk => (hf.i (hn _ _ (by omega))).trans (h4 k hk), h5.fr hf hm, h6.fr hf hm, h7.fr hf hm⟩
theorem MR.of {s : Mem} (h : MT s T) (h53 : rI s 84 53 = -1) : MR s T := ⟨h.1, h.2.1, fun k hk => by have := h.2.2.1 k hk; rwa [h53, if_neg (by omega)] at this, h.2.2.2⟩
theorem MR.wet {s : Mem} (h : MR s T) {a : Nat} {v : Int} (h53 : rI s 84 53 = (a : Int)) (h54 : rI s 84 54 = v) : MT s (tWet T a v) := ⟨h.1, h.2.1, fun k hk => by
  show _ = if k = a then v else tW T k
  rw [h53, h54]
  by_cases e : k = a
  · rw [if_pos (by omega), if_pos e]
  · rw [if_neg (by omega), if_neg e]
    exact h.2.2.1 k hk, h.2.2.2⟩
abbrev PW (c : Nat) : Nat → Nat → Prop := fun p i => PMm true p i ∨ p = 128 ∧ 279 * c ≤ i ∧ i < 279 * c + 279
theorem PW_Q {c : Nat} : ∀ p i, PW c p i → PQ p i := fun p i q => by
  rcases q with q | q
  · exact PMm_Q p i q
  · unfold PQ; omega
theorem PMm_x : ∀ p i, PMm true p i → (p ≠ 84 ∨ (i ≠ 49 ∧ i ≠ 57 ∧ i ≠ 66 ∧ i ≠ 53 ∧ i ≠ 54)) ∧ p ≠ 123 ∧ p ≠ 127 ∧ p ≠ 128 ∧ p ≠ 114 ∧ p ≠ 116 ∧ (p < 119 ∨ 121 < p) := fun p i q => by
  rcases q with q | q | q | q <;> omega
theorem m_wet13 (D : Nat) {a : Nat} (ht : Tf T) (hfw : Wf T w) (h99 : w 0 ≤ 999) (hH : Hf T hc hf) : ∀ (j c b : Nat) (s : Mem), c + j = 10 → b < 2 ^ c → MR s T → MW s w → MA s w → rI s 84 57 = 1 → rI s 84 49 = 1 → (∃ bs : Nat, rI s 84 59 = (bs : Int) ∧ bs < 128) → rI s 84 53 = (a : Int) → MHu s hc hf → (∀ u, u < c → MWy s T w a u 31) → ∃ s1, L_M_wetSet_13 (D + 10) (b : Int) (c : Int) s = some (((wtF T w hc hf a j c b : Nat) : Int), s1) ∧ Fr PQ s s1 ∧ MW s1 w ∧ rI s1 84 53 = -1 ∧ Zb s1 ∧ ∀ u, u < 10 → MWy s1 T w a u 31
  | 0, c, b, s, hj, hb, hr, hw, ha, h57, h49, hbs, h53, hh, hwy => by
    obtain ⟨s3, e3, f3, m3, g53, g57⟩ := m_back (D + 8) (T := tWet T a (rI s 84 54)) ⟨hr.wet h53 rfl, hw, ha, h57, h49, hbs⟩
    rw [e_M_wetSet_13, if_neg (by omega), e3, Option.bind_some]
    refine ⟨s3, rfl, f3.mo Pb_Q, m3, g53, g57, fun u hu d q hd hq => ?_⟩
    rw [f3.i (by omega)]
    exact hwy u (by omega) d q hd hq
  | j + 1, c, b, s, hj, hb, hr, hw, ha, h57, h49, hbs, h53, hh, hwy => by
    have hp : 2 ^ c < 2 ^ (c + 1) := Nat.pow_lt_pow_right (by omega) (by omega)
    have hp2 : 2 ^ (c + 1) = 2 ^ c + 2 ^ c := by rw [Nat.pow_succ]; omega
    have hp9 : 2 ^ c ≤ 2 ^ 9 := Nat.pow_le_pow_right (by omega) (by omega)
    obtain ⟨bs, hb1, hb2⟩ := hbs
    have f0 : Fr (fun a i => a = 84 ∧ i = 54) s (wI s 84 54 (c : Int)) := Fr.rf.w ⟨rfl, rfl⟩
    have k53 : rI (wI s 84 54 (c : Int)) 84 53 = (a : Int) := (f0.i (by omega)).trans h53
    have r0 : MR (wI s 84 54 (c : Int)) T := hr.fr f0 (fun a i q => by omega)
    have m0 : MH (wI s 84 54 (c : Int)) (tWet T a (c : Int)) w w := ⟨r0.wet k53 (rI_same _ _ _ _), hw.fr f0 (fun a i q => by omega), ha.fr f0 (fun a i q => by omega), (f0.i (by omega)).trans h57, (f0.i (by omega)).trans h49, bs, (f0.i (by omega)).trans hb1, hb2⟩
    obtain ⟨s1, s1', e1, -, f1, m1, w1⟩ := m_wet30 D (b := b) (c := c) (a := a) ht hfw h99 (by omega) hH 31 0 1 _ rfl (Or.inr rfl) m0 (hh.fr f0 (fun a i q => by omega)) (fun d q hd => by omega)
    obtain ⟨s2, e2, f2, m2⟩ := m_tries (D + 9) m1
    have r2 : MR s2 T := (r0.fr f1 (fun p i q => by
      rcases q with q | q
      · have := PMm_x p i q; omega
      · omega)).fr f2 (fun p i q => by omega)
    have g53 : rI s2 84 53 = (a : Int) := by
      rw [f2.i (by omega), f1.i (fun q => by
        rcases q with q | q
        · have := PMm_x _ _ q; omega
        · omega)]
      exact k53
    have hh2 : MHu s2 hc hf := ((hh.fr f0 (fun a i q => by omega)).fr f1 (fun p i q => by
      rcases q with q | q
      · have := PMm_x p i q; omega
      · omega)).fr f2 (fun p i q => by omega)
    have wy2 : ∀ u, u < c + 1 → MWy s2 T w a u 31 := fun u hu d q hd hq => by
      have hn := ht.2.1
      rw [f2.i (by omega)]
      by_cases e : u = c
      · rw [e]; exact w1 d q hd hq
      · rw [f1.i (fun z => by
          rcases z with z | z
          · have := PMm_x _ _ z; omega
          · omega), f0.i (by omega)]
        exact hwy u (by omega) d q hd hq
    have ff : Fr PQ s s2 := ((f0.mo (fun a i q => by unfold PQ; omega)).tr (f1.mo PW_Q)).tr (f2.mo Pt_Q)
    obtain ⟨h1, h2, h3, h4, h5, hbs3⟩ := m2
    rw [e_M_wetSet_13, if_pos (by omega), show L_M_wetSet_30 (D + 10) (b : Int) (c : Int) 1 0 (wI s 84 54 (c : Int)) = _ from e1, e2, Option.bind_some]
    simp only []
    unfold wtF
    have hfit : fit (tWet T a (c : Int)) hc hf 31 0 (mns (tWet T a (c : Int)) 0 w) = fit (tWet T a (c : Int)) hc hf 31 0 w := rfl
    rw [hfit]
    cases fit (tWet T a (c : Int)) hc hf 31 0 w
    · simp only [Bool.false_eq_true, and_false, if_false, if_true]
      obtain ⟨s4, e4, f4, rest⟩ := m_wet13 D ht hfw h99 hH j (c + 1) b s2 (by omega) (by omega) r2 h2 h3 h4 h5 hbs3 g53 hh2 wy2
      exact ⟨s4, e4, ff.tr f4, rest⟩
    · simp only [and_self, if_true]
      obtain ⟨o1, -⟩ := or_p (k := c) (a := b) (by omega) hb
      rw [if_neg (by omega), iShl_1 (by omega), iOr_nat (by omega) (by omega), o1]
      obtain ⟨s4, e4, f4, rest⟩ := m_wet13 D ht hfw h99 hH j (c + 1) (b + 2 ^ c) s2 (by omega) (by omega) r2 h2 h3 h4 h5 hbs3 g53 hh2 wy2
      exact ⟨s4, e4, ff.tr f4, rest⟩
theorem m_wetSet (D : Nat) {s : Mem} (hm : MM s T w) (ht : Tf T) (hfw : Wf T w) (h99 : w 0 ≤ 999) (hh : MHu s hc hf) (hH : Hf T hc hf) (a : Nat) : ∃ s1, f_M_wetSet (D + 11) (a : Int) s = some (((wtS T w hc hf a : Nat) : Int), s1) ∧ Fr PQ s s1 ∧ MM s1 T w ∧ bsO s1 ∧ ∀ u, u < 10 → MWy s1 T w a u 31 := by
  obtain ⟨s1, e1, f1, m1, h59, h53⟩ := m_aside (D + 9) hm
  have f2 : Fr (fun a i => a = 84 ∧ i = 53) s1 (wI s1 84 53 (a : Int)) := Fr.rf.w ⟨rfl, rfl⟩
  have r1 := MR.of m1.1 h53
  obtain ⟨h1, h2, h3, h4, h5, bs, hb1, hb2⟩ := m1
  obtain ⟨s3, e3, f3, g1, g2, g3, g4⟩ := m_wet13 D (a := a) ht hfw h99 hH 10 0 0 (wI s1 84 53 (a : Int)) rfl (by decide) (r1.fr f2 (fun p i q => by omega)) (h2.fr f2 (fun p i q => by omega)) (h3.fr f2 (fun p i q => by omega)) ((f2.i (by omega)).trans h4) ((f2.i (by omega)).trans h5) ⟨bs, (f2.i (by omega)).trans hb1, hb2⟩ (rI_same _ _ _ _) ((hh.fr f1 (fun p i q => by unfold PAs at q; omega)).fr f2 (fun p i q => by omega)) (fun u hu => by omega)
  have ff : Fr PQ s s3 := ((f1.mo PAs_Q).tr (f2.mo (fun a i q => by unfold PQ; omega))).tr f3
  rw [e_M_wetSet, e1, Option.bind_some]
  exact ⟨s3, e3, ff, hm.of ff g1 g2 g3.1, g3.2, g4⟩
theorem m_wets (D : Nat) {s : Mem} (hm : MM s T w) (ht : Tf T) (hfw : Wf T w) (h99 : w 0 ≤ 999) (hh : MHu s hc hf) (hH : Hf T hc hf) (a : Int) : ∃ s1, f_M_wets (D + 12) a s = some (sWets T w hc hf a, s1) ∧ Fr PQ s s1 ∧ MM s1 T w ∧ (bsO s → bsO s1) := by
  have hg := ht.2.2.1
  unfold sWets
  rw [e_M_wets, m_isG (D + 9) hm.1 hg, Option.bind_some]
  simp only []
  by_cases ha : 0 ≤ a ∧ a < (tG T : Int)
  · obtain ⟨k, rfl⟩ := Int.eq_ofNat_of_zero_le ha.1
    obtain ⟨s1, e1, f1, m1, b1, -⟩ := m_wetSet D hm ht hfw h99 hh hH k
    rw [if_pos ha, if_pos ha, if_neg (by omega), e1, Option.bind_some, Int.toNat_natCast]
    exact ⟨s1, rfl, f1, m1, fun _ => b1⟩
  · rw [if_neg ha, if_neg ha, if_pos rfl]
    exact ⟨s, rfl, Fr.rf, hm, id⟩
theorem m_most30 (D : Nat) {s : Mem} {set k f e : Nat} (hs : set < 1024) (hf10 : f < 10) (hk : k < 279) (he : e ≤ 10) : ∀ (j h g : Nat), h + j = 10 → g ≤ h → L_M_mostAlike_30 D (set : Int) (k : Int) (e : Int) (f : Int) (g : Int) (h : Int) s = L_M_mostAlike_5 D (set : Int) (k : Int) ((if e < g + cnA set (fun u => rI s 128 (279 * u + k)) f j h then g + cnA set (fun u => rI s 128 (279 * u + k)) f j h else e : Nat) : Int) ((f + 1 : Nat) : Int) s
  | 0, h, g, hj, hg => by
    have h0 : cnA set (fun u => rI s 128 (279 * u + k)) f 0 h = 0 := rfl
    rw [e_M_mostAlike_30, if_neg (by omega), w32_s (by omega)]
    simp only [h0, Nat.add_zero]
    by_cases q : e < g
    · rw [if_pos (by omega), if_pos q]
    · rw [if_neg (by omega), if_neg q]
  | j + 1, h, g, hj, hg => by
    have ix : ∀ u : Nat, u < 10 → w32 ((w32 (279 * (u : Int))) + (k : Int)) = ((279 * u + k : Nat) : Int) := fun u hu => by
      rw [w32_i (z := 279 * (u : Int)) (by omega) (by omega), w32_i (by omega) (by omega)]
      omega
    have ih0 := m_most30 D (s := s) (set := set) (k := k) (f := f) (e := e) hs hf10 hk he j (h + 1) g (by omega) (by omega)
    have ih1 := m_most30 D (s := s) (set := set) (k := k) (f := f) (e := e) hs hf10 hk he j (h + 1) (g + 1) (by omega) (by omega)
    have ec : cnA set (fun u => rI s 128 (279 * u + k)) f (j + 1) h = (if set / 2 ^ h % 2 = 1 ∧ rI s 128 (279 * f + k) = rI s 128 (279 * h + k) then 1 else 0) + cnA set (fun u => rI s 128 (279 * u + k)) f j (h + 1) := rfl
    rw [e_M_mostAlike_30, if_pos (by omega), bit_n hs (by omega), ix f hf10, ix h (by omega), inB_n (by omega), inB_n (by omega), Int.toNat_natCast, Int.toNat_natCast, w32_s (by omega), w32_s (by omega)]
    by_cases hb : set / 2 ^ h % 2 = 1
    · rw [if_pos (by omega)]
      by_cases hq : rI s 128 (279 * f + k) = rI s 128 (279 * h + k)
      · rw [if_pos ⟨hb, hq⟩] at ec
        rw [if_pos hq, ih1, ec, Nat.add_assoc]
      · rw [if_neg (fun q => hq q.2), Nat.zero_add] at ec
        rw [if_neg hq, ih0, ec]
    · rw [if_neg (fun q => hb q.1), Nat.zero_add] at ec
      rw [if_neg (by omega), ih0, ec]
theorem m_most5 (D : Nat) {s : Mem} {set k : Nat} (hs : set < 1024) (hk : k < 279) : ∀ (j f e : Nat), f + j = 10 → e ≤ 10 → L_M_mostAlike_5 D (set : Int) (k : Int) (e : Int) (f : Int) s = some (((mxA set (fun u => rI s 128 (279 * u + k)) j f e : Nat) : Int), s)
  | 0, f, e, hj, he => by
    rw [e_M_mostAlike_5, if_neg (by omega)]
    rfl
  | j + 1, f, e, hj, he => by
    have hcn := cnA_le set (fun u => rI s 128 (279 * u + k)) f 10 0
    rw [e_M_mostAlike_5, if_pos (by omega), bit_n hs (by omega), w32_s (by omega)]
    unfold mxA
    by_cases hb : set / 2 ^ f % 2 = 1
    · rw [if_neg (by omega), show L_M_mostAlike_30 D (set : Int) (k : Int) (e : Int) (f : Int) 0 0 s = _ from m_most30 D hs (by omega) hk he 10 0 0 rfl (by omega), Nat.zero_add]
      by_cases hq : e < cnA set (fun u => rI s 128 (279 * u + k)) f 10 0
      · rw [if_pos hq, if_pos ⟨hb, hq⟩]
        exact m_most5 D hs hk j (f + 1) _ (by omega) hcn
      · rw [if_neg hq, if_neg (fun q => hq q.2)]
        exact m_most5 D hs hk j (f + 1) e (by omega) he
    · have : set / 2 ^ f % 2 = 0 := by omega
      rw [if_pos (by omega), if_neg (fun q => hb q.1)]
      exact m_most5 D hs hk j (f + 1) e (by omega) he
theorem m_most (D : Nat) {s : Mem} {a set m q : Nat} (ht : Tf T) (hfw : Wf T w) (h99 : w 0 ≤ 999) (hs : set < 1024) (hwy : ∀ u, u < 10 → MWy s T w a u 31) (hm : m ≤ 30) (hq : q < tN T) : f_M_mostAlike (D + 1) (set : Int) ((9 * m + q : Nat) : Int) s = some ((mlS set (tlv T w a m q) : Int), s) := by
  have hn := ht.2.1
  rw [e_M_mostAlike, show L_M_mostAlike_5 D (set : Int) ((9 * m + q : Nat) : Int) 0 0 s = _ from m_most5 D hs (by omega) 10 0 0 rfl (by omega)]
  have : mxA set (fun u => rI s 128 (279 * u + (9 * m + q))) 10 0 0 = mlS set (tlv T w a m q) := mlS_c (fun v u hv hu bv bu => by
    have e2 : ∀ x, x < 10 → rI s 128 (279 * x + (9 * m + q)) = if who w (tG T) (q : Int) = -1 then -1 else tlv T w a m q x := fun x hx => by
      have hms := (mns_w (T := tWet T a (x : Int)) m (hfw.wet a x) (by omega)).2.2.2
      rw [← Nat.add_assoc, hwy x hx m q (by omega) hq]
      unfold hrw tlv
      rw [who_c (w := w) (g := tG T) hms]
      rcases who_or w (tG T) (q : Int) with ⟨w1, -⟩ | ⟨i, w2, w3, -⟩
      · rw [w1, if_pos rfl, if_pos rfl]
      · rw [w3, if_neg (by omega), if_neg (by omega), if_neg (by omega)]
    rw [e2 v hv, e2 u hu]
    rcases who_or w (tG T) (q : Int) with ⟨w1, -⟩ | ⟨i, w2, w3, -⟩
    · have : ∀ x, tlv T w a m q x = 0 := fun x => by unfold tlv; rw [w1, if_pos rfl]
      rw [w1, if_pos rfl, if_pos rfl, this, this]
      exact ⟨fun _ => rfl, fun _ => rfl⟩
    · rw [w3, if_neg (by omega), if_neg (by omega)])
  rw [this]
/-- the search as the reference keeps it: minutes, seat, few -/
def Tm (e f g : Int) (c : Int × Int × Int) : Prop := (e = -1 ∧ f = -1 ∧ c = (-1, -1, 11)) ∨ (e ≠ -1 ∧ e = c.1 ∧ f = c.2.1 ∧ g = c.2.2)
theorem m_tell60 (D : Nat) {s : Mem} {a set m : Nat} {b : Int} (hmt : MT s T) (ht : Tf T) (hfw : Wf T w) (h99 : w 0 ≤ 999) (hs : set < 1024) (hwy : ∀ u, u < 10 → MWy s T w a u 31) (hm : 1 ≤ m ∧ m ≤ 30) : ∀ (j q : Nat) (c : Int × Int × Int) (e f g : Int), q + j = tN T → Tm e f g c → ∃ e' f' g', L_M_tells_60 (D + 2) b (set : Int) e f g (m : Int) (q : Int) s = L_M_tells_41 (D + 2) b (set : Int) e' f' g' ((m + 1 : Nat) : Int) s ∧ Tm e' f' g' (tlQ T w a set m j q c)
  | 0, q, c, e, f, g, hj, hc => by
    rw [e_M_tells_60, m_n (D + 1) hmt, Option.bind_some, if_neg (by simp; omega), w32_s (by omega)]
    exact ⟨e, f, g, rfl, hc⟩
  | j + 1, q, c, e, f, g, hj, hc => by
    have hn := ht.2.1
    have e1 : w32 ((w32 (9 * (m : Int))) + (q : Int)) = ((9 * m + q : Nat) : Int) := by
      rw [w32_i (z := 9 * (m : Int)) (by omega) (by omega), w32_i (by omega) (by omega)]
      omega
    have hml := mxA_le set (tlv T w a m q) 10 0 0 (by omega)
    have hml2 : mlS set (tlv T w a m q) ≤ 10 := hml
    rw [e_M_tells_60, m_n (D + 1) hmt, Option.bind_some, if_pos (by simp; omega), e1, m_most (D + 1) ht hfw h99 hs hwy (by omega) (by omega), Option.bind_some, w32_s (by omega)]
    unfold tlQ
    simp only []
    rcases hc with ⟨rfl, rfl, rfl⟩ | ⟨c1, c2, c3, c4⟩
    · rw [if_pos rfl, if_pos (show (mlS set (tlv T w a m q) : Int) < 11 by omega)]
      exact m_tell60 D hmt ht hfw h99 hs hwy hm j (q + 1) _ _ _ _ (by omega) (Or.inr ⟨by omega, rfl, rfl, rfl⟩)
    · rw [if_neg c1, c4]
      by_cases h : (mlS set (tlv T w a m q) : Int) < c.2.2
      · rw [if_pos h, if_pos h]
        exact m_tell60 D hmt ht hfw h99 hs hwy hm j (q + 1) _ _ _ _ (by omega) (Or.inr ⟨by omega, rfl, rfl, rfl⟩)
      · rw [if_neg h, if_neg h]
        exact m_tell60 D hmt ht hfw h99 hs hwy hm j (q + 1) c _ _ _ (by omega) (Or.inr ⟨c1, c2, c3, rfl⟩)
theorem m_tell41 (D : Nat) {s : Mem} {a set last : Nat} {b : Int} (hm : MM s T w) (ht : Tf T) (hfw : Wf T w) (h99 : w 0 ≤ 999) (hs : set < 1024) (hs0 : set ≠ 0) (hwy : ∀ u, u < 10 → MWy s T w a u 31) (hl : last = if 30 < 999 - w 0 then 30 else (999 - w 0).toNat) : ∀ (j m : Nat) (c : Int × Int × Int) (e f g : Int), m + j = last + 1 → 1 ≤ m → Tm e f g c → ∃ e' f' g', L_M_tells_41 (D + 2) b (set : Int) e f g (m : Int) s = L_M_tells_124 (D + 2) b e' f' g' s ∧ Tm e' f' g' (tlM T w a set j m c)
  | 0, m, c, e, f, g, hj, h1, hc => by
    have h0 := hfw.1
    rw [e_M_tells_41, if_neg (by omega), m_can D hm hfw (m : Int) (by omega) (by omega), Option.bind_some]
    simp only []
    have hnc : ¬ cpc w (m : Int) 1 30 := by
      rw [cpc_i]
      intro q
      split at hl <;> omega
    rw [if_neg hnc, if_pos rfl]
    exact ⟨e, f, g, rfl, hc⟩
  | j + 1, m, c, e, f, g, hj, h1, hc => by
    have h0 := hfw.1
    have hcp : cpc w (m : Int) 1 30 := by
      rw [cpc_i]
      split at hl <;> omega
    have hm30 := hcp.2.1
    obtain ⟨e1, f1, g1, k1, c1⟩ := m_tell60 D (b := b) hm.1 ht hfw h99 hs hwy (m := m) (by omega) (tN T) 0 c e f g (by omega) hc
    obtain ⟨e2, f2, g2, k2, c2⟩ := m_tell41 D (b := b) hm ht hfw h99 hs hs0 hwy hl j (m + 1) _ e1 f1 g1 (by omega) (by omega) c1
    rw [e_M_tells_41, if_neg (by omega), m_can D hm hfw (m : Int) (by omega) (by omega), Option.bind_some]
    simp only []
    rw [if_pos hcp, if_neg (by omega), show L_M_tells_60 (D + 2) b (set : Int) e f g (m : Int) 0 s = _ from k1]
    exact ⟨e2, f2, g2, k2, c2⟩
theorem m_tells (D : Nat) {s : Mem} (hm : MM s T w) (ht : Tf T) (hfw : Wf T w) (h99 : w 0 ≤ 999) (hh : MHu s hc hf) (hH : Hf T hc hf) (a b : Int) : ∃ s1, f_M_tells (D + 12) a b s = some (sTells T w hc hf a b, s1) ∧ Fr PQ s s1 ∧ MM s1 T w ∧ (bsO s → bsO s1) := by
  have hg := ht.2.2.1
  have h0 := hfw.1
  unfold sTells
  rw [e_M_tells, m_isG (D + 9) hm.1 hg, Option.bind_some]
  simp only []
  by_cases ha : 0 ≤ a ∧ a < (tG T : Int)
  · obtain ⟨k, rfl⟩ := Int.eq_ofNat_of_zero_le ha.1
    rw [if_pos ha, if_neg (by omega), m_isIn (D + 10), Option.bind_some, Int.toNat_natCast]
    simp only []
    by_cases hb : 0 ≤ b ∧ b ≤ 2
    · obtain ⟨s1, e1, f1, m1, b1, wy⟩ := m_wetSet D hm ht hfw h99 hh hH k
      have hset : wtS T w hc hf k < 1024 := wtF_r T w hc hf k 10 0 0 rfl (by decide)
      rw [if_pos hb, if_neg (by omega), e1, Option.bind_some]
      simp only []
      by_cases hz : wtS T w hc hf k = 0
      · rw [hz, e_M_tells_41, if_pos (by omega), e_M_tells_124, if_pos rfl]
        refine ⟨s1, ?_, f1, m1, fun _ => b1⟩
        by_cases h9 : w 0 < 999
        · rw [if_pos ⟨ha, hb, h9⟩, if_pos rfl]
        · rw [if_neg (by omega)]
      · obtain ⟨e', f', g', k1, c1⟩ := m_tell41 (D + 9) (a := k) (b := b) m1 ht hfw h99 hset hz wy rfl (if 30 < 999 - w 0 then 30 else (999 - w 0).toNat) 1 (-1, -1, 11) (-1) (-1) 0 (by omega) (by omega) (Or.inl ⟨rfl, rfl, rfl⟩)
        refine ⟨s1, ?_, f1, m1, fun _ => b1⟩
        rw [show L_M_tells_41 (D + 11) b (wtS T w hc hf k : Int) (-1) (-1) 0 1 s1 = _ from k1, e_M_tells_124]
        have hdef : tlM T w k (wtS T w hc hf k) (if 30 < 999 - w 0 then 30 else (999 - w 0).toNat) 1 (-1, -1, 11) = tlS T w k (wtS T w hc hf k) := rfl
        rw [hdef] at c1
        by_cases h9 : w 0 < 999
        · have cnd : (0 ≤ (k : Int) ∧ (k : Int) < (tG T : Int)) ∧ (0 ≤ b ∧ b ≤ 2) ∧ w 0 < 999 := ⟨ha, hb, h9⟩
          rw [if_pos cnd, if_neg hz]
          have hr : 0 ≤ (tlS T w k (wtS T w hc hf k)).2.2 ∧ (tlS T w k (wtS T w hc hf k)).2.2 ≤ 10 := tlM_c _ 1 _ _ k (Or.inl rfl) (by split <;> omega) ht.1
          rcases c1 with ⟨c2, c3, c4⟩ | ⟨c2, c3, c4, c5⟩
          · rw [c4] at hr
            simp only [] at hr
            omega
          · rw [if_neg c2, c3, c4, c5]
            by_cases q1 : b = 0
            · rw [if_pos q1, if_pos q1]
            · rw [if_neg q1, if_neg q1]
              by_cases q2 : b = 1
              · rw [if_pos q2, if_pos q2]
              · rw [if_neg q2, if_neg q2]
        · have hz0 : (if 30 < 999 - w 0 then 30 else (999 - w 0).toNat) = 0 := by
            rw [if_neg (by omega)]
            omega
          have hts : tlS T w k (wtS T w hc hf k) = (-1, -1, 11) := by
            unfold tlS
            rw [hz0]
            rfl
          rw [hts] at c1
          have cnd : ¬ ((0 ≤ (k : Int) ∧ (k : Int) < (tG T : Int)) ∧ (0 ≤ b ∧ b ≤ 2) ∧ w 0 < 999) := fun q => h9 q.2.2
          rw [if_neg cnd]
          rcases c1 with ⟨c2, c3, c4⟩ | ⟨c2, c3, c4, c5⟩
          · rw [if_pos c2]
          · exact absurd c3 c2
    · rw [if_neg hb, if_pos rfl, if_neg (by omega)]
      exact ⟨s, rfl, Fr.rf, hm, id⟩
  · rw [if_neg ha, if_pos rfl, if_neg (fun q => ha q.1)]
    exact ⟨s, rfl, Fr.rf, hm, id⟩
end MHUM
