/-! hums: the reference's way -/
def MHu (s : Mem) (hc : Nat) (hf : Nat → Int) : Prop := rI s 84 66 = (hc : Int) ∧ ∀ i, i < 3 * hc → rI s 127 i = hf i
theorem MHu.fr {s s' : Mem} {hc : Nat} {hf : Nat → Int} {P : Nat → Nat → Prop} (h : MHu s hc hf) (hfr : Fr P s s') (hp : ∀ a i, P a i → (a ≠ 84 ∨ i ≠ 66) ∧ a ≠ 127) : MHu s' hc hf := ⟨(hfr.i (fun q => by have := hp _ _ q; omega)).trans h.1, fun i hi => (hfr.i (fun q => by have := hp _ _ q; omega)).trans (h.2 i hi)⟩
theorem PQ_Hu : ∀ a i, PQ a i → (a ≠ 84 ∨ i ≠ 66) ∧ a ≠ 127 := fun a i q => by unfold PQ at q; omega
/-- raw: what is heard at a seat, -1 where nobody is -/
def hrw (T : Tab) (w : Nat → Int) (q : Int) : Int := if who w (tG T) q = -1 then -1 else w (11 + 2 * (who w (tG T) q).toNat)
/-- thought: guest a is as wet as v -/
def MG (s : Mem) (T : Tab) (a v : Nat) : Prop := rI s 84 53 = (a : Int) ∧ rI s 84 54 = (v : Int)
def MWy (s : Mem) (T : Tab) (w : Nat → Int) (a v m : Nat) : Prop := ∀ d q, d < m → q < tN T → rI s 128 (279 * v + 9 * d + q) = hrw T (mns (tWet T a (v : Int)) d w) (q : Int)
section MHUM
variable {T : Tab} {w w0 : Nat → Int} {hc : Nat} {hf : Nat → Int}
theorem m_heardAt (D : Nat) {s : Mem} (hm : MT s T) (hw : MW s w) (ht : Tf T) {q : Int} (h0 : 0 ≤ q) (h1 : q < (tN T : Int)) : f_M_heardAt (D + 4) q s = some (hrw T w q, s) := by
  have hg := ht.2.2.1
  have hn := ht.2.1
  have htr : trn (tN T) q = q := by unfold trn; rw [if_neg (by omega), if_pos h1]
  rw [e_M_heardAt, m_guestAt D hm hw hn hg (by omega), Option.bind_some, htr]
  simp only []
  unfold hrw
  rcases who_or w (tG T) q with ⟨w1, -⟩ | ⟨i, w2, w3, -⟩
  · rw [w1, if_pos rfl, if_pos rfl]
  · rw [w3, if_neg (by omega), if_neg (by omega), m_swellOf (D + 2) hw (by omega), Option.bind_some, Int.toNat_natCast]
theorem w3m {c : Nat} (h : c < 100) : w32 (3 * (c : Int)) = ((3 * c : Nat) : Int) := by rw [w32_i (by omega) (by omega)]; omega
theorem m_asHeard2 (D : Nat) {s : Mem} {m : Nat} (hm : MT s T) (hw : MW s w) (ht : Tf T) (hfw : Wf T w) (hh : MHu s hc hf) (hH : Hf T hc hf) : ∀ (j k : Nat), k + j = hc → L_M_isAsHeard_2 (D + 4) (m : Int) (k : Int) s = some (if soG T w hf m j k then 1 else 0, s)
  | 0, k, hj => by
    rw [e_M_isAsHeard_2, hh.1, if_neg (by omega)]
    rfl
  | j + 1, k, hj => by
    have hg := ht.2.2.1
    have h16 := hH.1
    obtain ⟨r1, r2, r3⟩ := hH.2 k (by omega)
    have ih := m_asHeard2 D (m := m) hm hw ht hfw hh hH j (k + 1) (by omega)
    unfold soG
    rw [e_M_isAsHeard_2, hh.1, if_pos (by omega), w3m (by omega), inB_n (by omega), Int.toNat_natCast, hh.2 _ (by omega), w32b (by omega), inB_n (by omega), inB_n (by omega), Int.toNat_natCast, hh.2 _ (by omega), w32_s (by omega)]
    by_cases h1 : hf (3 * k) = (m : Int)
    · rw [if_pos h1]
      have l55 : ∀ e : Int, (e = if hf (3 * k + 2) = 255 then -1 else hf (3 * k + 2)) → L_M_isAsHeard_55 (D + 4) (m : Int) (k : Int) e s = some (if ((if hf (3 * k) = (m : Int) then decide (w 0 ≤ 999) && decide (hf (3 * k + 2) = hrd T w (hf (3 * k + 1))) else true) && soG T w hf m j (k + 1)) = true then 1 else 0, s) := fun e he => by
        rw [e_M_isAsHeard_55, hw 0 (by omega), if_pos h1]
        by_cases h9 : 999 < w 0
        · rw [if_pos h9, decide_eq_false (by omega)]
          rfl
        · rw [if_neg h9, w3m (by omega), w31 (by omega), inB_n (by omega), Int.toNat_natCast, hh.2 _ (by omega), m_heardAt D hm hw ht r2.1 r2.2, Option.bind_some, w32_s (by omega), decide_eq_true (by omega)]
          simp only []
          have iff : hrw T w (hf (3 * k + 1)) = e ↔ hf (3 * k + 2) = hrd T w (hf (3 * k + 1)) := by
            unfold hrw hrd
            rcases who_or w (tG T) (hf (3 * k + 1)) with ⟨w1, -⟩ | ⟨i, w2, w3, -⟩
            · rw [w1, if_pos rfl, if_pos rfl, he]
              split <;> omega
            · have := (hfw.2.2.1 i w2).2
              rw [w3, if_neg (by omega), if_neg (by omega), Int.toNat_natCast, he]
              split <;> omega
          by_cases h2 : hrw T w (hf (3 * k + 1)) = e
          · rw [if_pos h2, ih, decide_eq_true (iff.mp h2)]
            simp
          · rw [if_neg h2, decide_eq_false (fun q => h2 (iff.mpr q))]
            simp
      by_cases h3 : hf (3 * k + 2) = 255
      · rw [if_pos h3]
        exact l55 (-1) (by rw [if_pos h3])
      · rw [if_neg h3]
        exact l55 _ (by rw [if_neg h3])
    · rw [if_neg h1, if_neg h1, ih, Bool.true_and]
/-- what each seat tells is kept -/
theorem m_ways61 (D : Nat) {s0 : Mem} {b : Int} {c f : Nat} {e : Int} (ht : Tf T) (hc10 : c < 10) (hf30 : f ≤ 30) : ∀ (j g : Nat) (s : Mem), g + j = tN T → MT s T → MW s w → (∀ q, q < g → rI s 128 (279 * c + 9 * f + q) = hrw T w (q : Int)) → ∃ s1, L_M_wetSet_61 (D + 10) b (c : Int) e (f : Int) (g : Int) s = ((f_M_minuteGoes (D + 10) s1).bind fun p2 => L_M_wetSet_30 (D + 10) b (c : Int) e ((f + 1 : Nat) : Int) p2.2) ∧ Fr (fun a i => a = 128 ∧ 279 * c + 9 * f ≤ i ∧ i < 279 * c + 9 * f + 9) s s1 ∧ ∀ q, q < tN T → rI s1 128 (279 * c + 9 * f + q) = hrw T w (q : Int)
  | 0, g, s, hj, hm, hw, hq => by
    rw [e_M_wetSet_61, m_n (D + 9) hm, Option.bind_some, if_neg (by simp; omega), w32_s (by omega)]
    exact ⟨s, rfl, Fr.rf, fun q h => hq q (by omega)⟩
  | j + 1, g, s, hj, hm, hw, hq => by
    have hn := ht.2.1
    have e1 : w32 ((w32 ((w32 (279 * (c : Int))) + (w32 (9 * (f : Int))))) + (g : Int)) = ((279 * c + 9 * f + g : Nat) : Int) := by
      rw [w32_i (z := 279 * (c : Int)) (by omega) (by omega), w32_i (z := 9 * (f : Int)) (by omega) (by omega), w32_i (z := 279 * (c : Int) + 9 * (f : Int)) (by omega) (by omega), w32_i (by omega) (by omega)]
      omega
    have f1 : Fr (fun a i => a = 128 ∧ 279 * c + 9 * f ≤ i ∧ i < 279 * c + 9 * f + 9) s (wI s 128 (279 * c + 9 * f + g) (hrw T w (g : Int))) := Fr.rf.w (by omega)
    obtain ⟨s1, g1, f2, g2⟩ := m_ways61 D (s0 := s0) (b := b) (c := c) (f := f) (e := e) ht hc10 hf30 j (g + 1) _ (by omega) (hm.fr f1 (fun a i q => by omega)) (hw.fr f1 (fun a i q => by omega)) (fun q h => by
      by_cases e : q = g
      · rw [e, rI_same]
      · rw [rI_other _ _ _ _ (by omega)]; exact hq q (by omega))
    rw [e_M_wetSet_61, m_n (D + 9) hm, Option.bind_some, if_pos (by simp; omega), m_heardAt (D + 6) hm hw ht (by omega) (by omega), Option.bind_some]
    simp only []
    rw [e1, inB_n (by omega), Int.toNat_natCast, w32_s (by omega)]
    exact ⟨s1, g1, f1.tr f2, g2⟩
/-- one wetness thought -/
theorem m_wet30 (D : Nat) {b c a : Nat} (ht : Tf T) (hfw : Wf T w) (h99 : w 0 ≤ 999) (hc10 : c < 10) (hH : Hf T hc hf) : ∀ (j f : Nat) (e : Int) (s : Mem), f + j = 31 → (e = 0 ∨ e = 1) → MH s (tWet T a (c : Int)) (mns (tWet T a (c : Int)) f w) w → MHu s hc hf → MWy s T w a c f → ∃ s1 s2, L_M_wetSet_30 (D + 10) (b : Int) (c : Int) e (f : Int) s = ((f_M_triesAnew (D + 10) s1).bind fun p1 => if (if e = 1 ∧ fit (tWet T a (c : Int)) hc hf j f (mns (tWet T a (c : Int)) f w) = true then (1 : Int) else 0) = 0 then (L_M_wetSet_13 (D + 10) (b : Int) ((c + 1 : Nat) : Int) p1.2) else L_M_wetSet_13 (D + 10) (iOr (b : Int) (iShl 1 (c : Int))) ((c + 1 : Nat) : Int) p1.2) ∧ s2 = s1 ∧ Fr (fun p i => PMm true p i ∨ p = 128 ∧ 279 * c ≤ i ∧ i < 279 * c + 279) s s1 ∧ MH s1 (tWet T a (c : Int)) (mns (tWet T a (c : Int)) 31 w) w ∧ MWy s1 T w a c 31
  | 0, f, e, s, hj, he, hm, hh, hwy => by
    have hff : f = 31 := by omega
    subst hff
    rw [e_M_wetSet_30, if_pos (by omega), w32_s (by omega)]
    refine ⟨s, s, ?_, rfl, Fr.rf, hm, hwy⟩
    have hfit : fit (tWet T a (c : Int)) hc hf 0 31 (mns (tWet T a (c : Int)) 31 w) = true := rfl
    rw [hfit]
    rcases he with rfl | rfl
    · simp
    · simp
  | j + 1, f, e, s, hj, he, hm, hh, hwy => by
    have ht2 : Tf (tWet T a (c : Int)) := ht.wet (by omega)
    have hms := mns_w (T := tWet T a (c : Int)) f (hfw.wet a c) (by omega)
    have hH2 : Hf (tWet T a (c : Int)) hc hf := hH
    have so := m_asHeard2 (D + 5) (T := tWet T a (c : Int)) (m := f) hm.1 hm.2.1 ht2 hms.1 hh hH2 hc 0 (by omega)
    -- the check, then the seats, then a minute
    have step : ∃ e' : Int, (e' = 0 ∨ e' = 1) ∧ (e' = 1 ↔ e = 1 ∧ soG (tWet T a (c : Int)) (mns (tWet T a (c : Int)) f w) hf f hc 0 = true) ∧ L_M_wetSet_30 (D + 10) (b : Int) (c : Int) e (f : Int) s = L_M_wetSet_61 (D + 10) (b : Int) (c : Int) e' (f : Int) 0 s := by
      rw [e_M_wetSet_30, if_neg (by omega)]
      rcases he with rfl | rfl
      · rw [if_pos rfl]
        exact ⟨0, Or.inl rfl, ⟨fun h => by omega, fun h => by omega⟩, rfl⟩
      · rw [if_neg (by omega), show f_M_isAsHeard (D + 10) (f : Int) s = _ from (e_M_isAsHeard (D + 9) f s).trans so, Option.bind_some]
        cases hso : soG (tWet T a (c : Int)) (mns (tWet T a (c : Int)) f w) hf f hc 0
        · exact ⟨0, Or.inl rfl, ⟨fun h => by omega, fun h => by cases h.2⟩, rfl⟩
        · exact ⟨1, Or.inr rfl, ⟨fun _ => ⟨rfl, rfl⟩, fun _ => rfl⟩, rfl⟩
    obtain ⟨e', he', hiff, es⟩ := step
    obtain ⟨s1, e1, f1, q1⟩ := m_ways61 D (s0 := s) (T := tWet T a (c : Int)) (b := (b : Int)) (c := c) (f := f) (e := e') ht2 hc10 (by omega) (tN T) 0 s (by show 0 + tN T = tN T; omega) hm.1 hm.2.1 (fun q h => by omega)
    have m1 : MH s1 (tWet T a (c : Int)) (mns (tWet T a (c : Int)) f w) w := hm.fr f1 (fun p i q => by omega)
    obtain ⟨h1, h2, h3, h4, h5, bs, h6, h7⟩ := m1
    obtain ⟨s2, b2, e2, f2, hw2, -, -, g59, gb, -⟩ := m_minute D (th := true) (K := []) h1 h2 hms.1 ht2 (Or.inl ⟨rfl, h4⟩) h6 h7
    have hp : ∀ p i, PMm true p i → (p ≠ 84 ∨ (i ≠ 49 ∧ i ≠ 57 ∧ i ≠ 66)) ∧ p ≠ 123 ∧ p ≠ 127 ∧ p ≠ 128 := fun p i q => by
      rcases q with q | q | q | q <;> omega
    have m2 : MH s2 (tWet T a (c : Int)) (mns (tWet T a (c : Int)) (f + 1) w) w := by
      rw [mns_s]
      exact ⟨h1.fr f2 PMm_T, hw2, h3.fr f2 (fun p i q => (hp p i q).2.1), (f2.i (fun q => by have := (hp _ _ q).1; omega)).trans h4, (f2.i (fun q => by have := (hp _ _ q).1; omega)).trans h5, b2, g59, gb⟩
    have hh2 : MHu s2 hc hf := (hh.fr f1 (fun p i q => by omega)).fr f2 (fun p i q => by have := hp p i q; omega)
    have hwy2 : MWy s2 T w a c (f + 1) := fun d q hd hq => by
      rw [f2.i (fun z => (hp _ _ z).2.2.2 rfl)]
      by_cases hdf : d = f
      · rw [hdf]; exact q1 q hq
      · have hn := ht.2.1
        rw [f1.i (by omega)]
        exact hwy d q (by omega) hq
    obtain ⟨s3, s4, e3, hs4, f3, m3, w3⟩ := m_wet30 D (b := b) (c := c) (a := a) ht hfw h99 hc10 hH j (f + 1) e' s2 (by omega) he' m2 hh2 hwy2
    refine ⟨s3, s4, ?_, hs4, ((f1.mo (fun p i q => Or.inr (by omega))).tr (f2.mo (fun p i q => Or.inl q))).tr f3, m3, w3⟩
    rw [es, show L_M_wetSet_61 (D + 10) (b : Int) (c : Int) e' (f : Int) 0 s = _ from e1, e2, Option.bind_some, e3]
    have hfit : (e' = 1 ∧ fit (tWet T a (c : Int)) hc hf j (f + 1) (mns (tWet T a (c : Int)) (f + 1) w) = true) ↔ (e = 1 ∧ fit (tWet T a (c : Int)) hc hf (j + 1) f (mns (tWet T a (c : Int)) f w) = true) := by
      rw [hiff, mns_s]
      show _ ↔ (e = 1 ∧ (soG (tWet T a (c : Int)) (mns (tWet T a (c : Int)) f w) hf f hc 0 && fit (tWet T a (c : Int)) hc hf j (f + 1) (mnt (tWet T a (c : Int)) (mns (tWet T a (c : Int)) f w)).1) = true)
      rw [Bool.and_eq_true, and_assoc]
    simp only [hfit]
end MHUM
