/-! what is heard, on both sides -/
def heB (tp : List Int) (n : Nat) : Nat → Nat → Bool
  | 0, _ => true
  | j + 1, k => if 30 < tg tp (3 * k) then false else if tg tp (3 * k + 1) < (n : Int) then (if 99 < tg tp (3 * k + 2) then (if tg tp (3 * k + 2) = 255 then heB tp n j (k + 1) else false) else heB tp n j (k + 1)) else false
def hearB (n : Nat) (tp : List Int) : Bool := if 0 < tp.length then (if tp.length % 3 = 0 then (if 16 < tp.length / 3 then false else heB tp n (tp.length / 3) 0) else false) else false
theorem heB_t {tp : List Int} {n : Nat} : ∀ {j k : Nat}, heB tp n j k = true → ∀ i, i < j → tg tp (3 * (k + i)) ≤ 30 ∧ tg tp (3 * (k + i) + 1) < (n : Int)
  | 0, _, _, i, hi => absurd hi (Nat.not_lt_zero i)
  | j + 1, k, h, i, hi => by
    have key : (tg tp (3 * k) ≤ 30 ∧ tg tp (3 * k + 1) < (n : Int)) ∧ heB tp n j (k + 1) = true := by
      unfold heB at h
      split at h
      · cases h
      · next h1 =>
        split at h
        · next h2 =>
          refine ⟨⟨by omega, h2⟩, ?_⟩
          split at h
          · split at h
            · exact h
            · cases h
          · exact h
        · cases h
    cases i with
    | zero => exact key.1
    | succ i => rw [show k + (i + 1) = k + 1 + i by omega]; exact heB_t key.2 i (by omega)
theorem hearB_t {n : Nat} {tp : List Int} (h : hearB n tp = true) : 0 < tp.length ∧ tp.length = 3 * (tp.length / 3) ∧ tp.length / 3 ≤ 16 ∧ ∀ i, i < tp.length / 3 → tg tp (3 * i) ≤ 30 ∧ tg tp (3 * i + 1) < (n : Int) := by
  unfold hearB at h
  split at h
  · next h1 =>
    split at h
    · next h2 =>
      split at h
      · cases h
      · next h3 =>
        refine ⟨h1, by omega, by omega, fun i hi => ?_⟩
        have := heB_t h i hi
        rw [Nat.zero_add] at this
        exact this
    · cases h
  · cases h
theorem Hf.hear {T : Tab} {tp : List Int} (hb : Bys tp) (h : hearB (tN T) tp = true) : Hf T (tp.length / 3) (tg tp) := by
  obtain ⟨h1, h2, h3, h4⟩ := hearB_t h
  refine ⟨h3, fun k hk => ?_⟩
  have := h4 k hk
  have a := tg_r hb (i := 3 * k) (by omega)
  have b := tg_r hb (i := 3 * k + 1) (by omega)
  have c := tg_r hb (i := 3 * k + 2) (by omega)
  exact ⟨⟨a.1, this.1⟩, ⟨b.1, this.2⟩, c⟩
section HEAR
variable {tp : List Int}
theorem x_take33 (D : Nat) {s : Mem} {n : Nat} (h : XTp s tp) (hl : tp.length = 3 * (tp.length / 3)) (h16 : tp.length / 3 ≤ 16) : ∀ j k : Nat, k + j = tp.length / 3 → L_Hu_take_33 (D + 1) (n : Int) ((tp.length / 3 : Nat) : Int) (k : Int) s = if heB tp n j k then some (1, wI (cpI s 2 0 67 0 tp.length) 66 2 ((tp.length / 3 : Nat) : Int)) else some (0, s)
  | 0, k, hk => by
    have e : w32 (((tp.length / 3 : Nat) : Int) * 3) = (tp.length : Int) := by rw [w32_i (by omega) (by omega)]; omega
    rw [e_Hu_take_33, if_neg (by omega), e, if_pos ⟨⟨by omega, by omega, by omega⟩, by omega, by omega⟩, Int.toNat_natCast]
    rfl
  | j + 1, k, hk => by
    have e0 : w32 ((k : Int) * 3) = ((3 * k : Nat) : Int) := by rw [w32_i (by omega) (by omega)]; omega
    have e1 : w32 (((3 * k : Nat) : Int) + 1) = ((3 * k + 1 : Nat) : Int) := by rw [w32_i (by omega) (by omega)]; omega
    have e2 : w32 (((3 * k : Nat) : Int) + 2) = ((3 * k + 2 : Nat) : Int) := by rw [w32_i (by omega) (by omega)]; omega
    rw [e_Hu_take_33, if_pos (by omega), e0, e2, x_byteAt D h (by omega), Option.bind_some]
    simp only []
    rw [x_byteAt D h (by omega), Option.bind_some]
    simp only []
    unfold heB
    by_cases c1 : 30 < tg tp (3 * k)
    · rw [if_pos c1, if_pos c1]; rfl
    · rw [if_neg c1, if_neg c1, e1, x_byteAt D h (by omega), Option.bind_some, w32_s (by omega)]
      simp only []
      by_cases c2 : tg tp (3 * k + 1) < (n : Int)
      · rw [if_pos c2, if_pos c2]
        by_cases c3 : 99 < tg tp (3 * k + 2)
        · rw [if_pos c3, if_pos c3]
          by_cases c4 : tg tp (3 * k + 2) = 255
          · rw [if_pos c4, if_pos c4]; exact x_take33 D h hl h16 j (k + 1) (by omega)
          · rw [if_neg c4, if_neg c4]; rfl
        · rw [if_neg c3, if_neg c3]; exact x_take33 D h hl h16 j (k + 1) (by omega)
      · rw [if_neg c2, if_neg c2]; rfl
abbrev PHe : Nat → Nat → Prop := fun a k => a = 1 ∧ k = 1 ∨ a = 66 ∧ k = 2 ∨ a = 67
theorem x_hear (D : Nat) {s : Mem} {n : Nat} (h : XTp s tp) (hn : rI s (rQ s 0 2) 1 = (n : Int)) : (hearB n tp = true → ∃ s1, f_X_hear (D + 3) s = some (((tp.length / 3 : Nat) : Int), s1) ∧ Fr PHe s s1 ∧ XHs s1 (tp.length / 3) (tg tp) ∧ XTp s1 []) ∧ (hearB n tp = false → f_X_hear (D + 3) s = some (-1, wI (wI s 1 1 0) 83 1 (w32 (rI s 83 1 + 1)))) := by
  have hl6 := h.2.1
  have href : f_X_refuse (D + 2) 1 (wI s 1 1 0) = some (0, wI (wI s 1 1 0) 83 1 (w32 (rI (wI s 1 1 0) 83 1 + 1))) := x_ref (D + 1) _ (k := 1) (by omega)
  rw [rI_other _ _ _ _ (by omega)] at href
  have ed : iDiv (tp.length : Int) 3 = ((tp.length / 3 : Nat) : Int) := by
    rw [iDiv_n ⟨by omega, by omega⟩ ⟨by omega, by omega⟩, Int.tdiv_eq_ediv_of_nonneg (by omega)]
    omega
  have em : w32 (((tp.length / 3 : Nat) : Int) * 3) = ((3 * (tp.length / 3) : Nat) : Int) := by rw [w32_i (by omega) (by omega)]; omega
  have key : f_Hu_take (D + 2) (n : Int) s = if hearB n tp then some (1, wI (cpI s 2 0 67 0 tp.length) 66 2 ((tp.length / 3 : Nat) : Int)) else some (0, s) := by
    rw [e_Hu_take, h.1, ed, em]
    unfold hearB
    by_cases c1 : 0 < tp.length
    · rw [if_pos c1]
      by_cases c2 : tp.length % 3 = 0
      · rw [if_pos c2, if_neg (by omega)]
        by_cases c3 : 16 < tp.length / 3
        · rw [if_pos (by omega), if_pos c3]; rfl
        · rw [if_neg (by omega), if_neg c3, if_pos (by omega)]
          exact x_take33 D h (by omega) (by omega) (tp.length / 3) 0 (by omega)
      · rw [if_neg c2]
        by_cases c3 : tp.length < 3
        · rw [if_pos (by omega)]; rfl
        · rw [if_neg (by omega)]
          by_cases c4 : 16 < tp.length / 3
          · rw [if_pos (by omega)]; rfl
          · rw [if_neg (by omega), if_neg (by omega)]; rfl
    · rw [if_neg c1, if_pos (by omega)]; rfl
  rw [e_X_hear, hn, key]
  constructor
  · intro hi
    obtain ⟨h1, h2, h3, h4⟩ := hearB_t hi
    have f1 : Fr PHe s (wI (wI (cpI s 2 0 67 0 tp.length) 66 2 ((tp.length / 3 : Nat) : Int)) 1 1 0) := ((Fr.rf.cp (fun k => by unfold PHe; omega)).w (by unfold PHe; omega)).w (by unfold PHe; omega)
    rw [if_pos hi, Option.bind_some, if_neg (show ¬ ((1 : Int) = 0) by decide)]
    simp only []
    refine ⟨_, ?_, f1, ⟨?_, fun i hi => ?_⟩, ⟨rI_same _ _ _ _, by simp, fun i hi => absurd hi (Nat.not_lt_zero i)⟩⟩
    · rw [rI_same]
    · rw [rI_other _ _ _ _ (by omega), rI_same]
    · rw [rI_other _ _ _ _ (by omega), rI_other _ _ _ _ (by omega), rI_cpI, if_pos ⟨rfl, by omega, by omega⟩, Nat.sub_zero, Nat.zero_add]
      exact h.2.2 i (by omega)
  · intro hi
    rw [hi, if_neg (show ¬ (false = true) by decide), Option.bind_some, if_pos rfl, href, Option.bind_some]
theorem m_isSn (D : Nat) {s : Mem} {n : Nat} (hn : rI s 114 3 = (n : Int)) (h9 : n ≤ 9) (v : Int) : f_M_isSeat (D + 2) v s = some (if 0 ≤ v ∧ v < (n : Int) then 1 else 0, s) := by
  rw [e_M_isSeat, e_M_seatMany, hn, Option.bind_some]
  simp only []
  rw [w32_i (by omega) (by omega), m_isIn, Option.bind_some]
  by_cases h : 0 ≤ v ∧ v < (n : Int)
  · rw [if_pos (show 0 ≤ v ∧ v ≤ (n : Int) - 1 by omega), if_pos h, if_pos (Or.inr rfl)]
  · rw [if_neg (show ¬ (0 ≤ v ∧ v ≤ (n : Int) - 1) by omega), if_neg h, if_pos (Or.inl rfl)]
theorem m_hear36 (D : Nat) {s : Mem} {n : Nat} (hn : rI s 114 3 = (n : Int)) (h9 : n ≤ 9) (h : Ag s 85 tp) (hb : Bys tp) (hl6 : tp.length ≤ 1600) (hl : tp.length = 3 * (tp.length / 3)) : ∀ j k : Nat, k + j = tp.length / 3 → L_M_hear_36 (D + 2) (tp.length : Int) 1 ((3 * k : Nat) : Int) s = L_M_hear_110 (D + 2) (tp.length : Int) (if heB tp n j k then 1 else 0) s
  | 0, k, hk => by
    rw [e_M_hear_36, if_neg (by omega)]
    rfl
  | j + 1, k, hk => by
    have h0 : rI s 85 (3 * k) = tg tp (3 * k) := h _ (by omega)
    have h1 : rI s 85 (3 * k + 1) = tg tp (3 * k + 1) := h _ (by omega)
    have h2 : rI s 85 (3 * k + 2) = tg tp (3 * k + 2) := h _ (by omega)
    have b1 := tg_r hb (i := 3 * k + 1) (by omega)
    have e1 : w32 (((3 * k : Nat) : Int) + 1) = ((3 * k + 1 : Nat) : Int) := by rw [w32_i (by omega) (by omega)]; omega
    have e2 : w32 (((3 * k : Nat) : Int) + 2) = ((3 * k + 2 : Nat) : Int) := by rw [w32_i (by omega) (by omega)]; omega
    have e3 : w32 (((3 * k : Nat) : Int) + 3) = ((3 * (k + 1) : Nat) : Int) := by rw [w32_i (by omega) (by omega)]; omega
    have l0 : L_M_hear_36 (D + 2) (tp.length : Int) 0 ((3 * (k + 1) : Nat) : Int) s = L_M_hear_110 (D + 2) (tp.length : Int) 0 s := by
      rw [e_M_hear_36]
      by_cases c : ((3 * (k + 1) : Nat) : Int) < (tp.length : Int)
      · rw [if_pos c, if_pos rfl]
      · rw [if_neg c]
    rw [e_M_hear_36, if_pos (by omega), if_neg (by omega), inB_n (by omega), Int.toNat_natCast, h0, e1, e2, e3]
    unfold heB
    by_cases c1 : 30 < tg tp (3 * k)
    · rw [if_pos c1, if_pos c1, l0]; rfl
    · rw [if_neg c1, if_neg c1, inB_n (by omega), Int.toNat_natCast, h1, m_isSn D hn h9, Option.bind_some]
      simp only []
      by_cases c2 : tg tp (3 * k + 1) < (n : Int)
      · rw [if_pos (⟨b1.1, c2⟩ : 0 ≤ tg tp (3 * k + 1) ∧ tg tp (3 * k + 1) < (n : Int)), if_neg (show ¬ ((1 : Int) = 0) by decide), if_pos c2, inB_n (by omega), inB_n (by omega), Int.toNat_natCast, h2]
        by_cases c3 : 99 < tg tp (3 * k + 2)
        · rw [if_pos c3, if_pos c3]
          by_cases c4 : tg tp (3 * k + 2) = 255
          · rw [if_pos c4, if_pos c4]; exact m_hear36 D hn h9 h hb hl6 hl j (k + 1) (by omega)
          · rw [if_neg c4, if_neg c4, l0]; rfl
        · rw [if_neg c3, if_neg c3]; exact m_hear36 D hn h9 h hb hl6 hl j (k + 1) (by omega)
      · rw [if_neg (fun q => c2 q.2 : ¬ (0 ≤ tg tp (3 * k + 1) ∧ tg tp (3 * k + 1) < (n : Int))), if_pos rfl, if_neg c2, l0]; rfl
theorem m_hear122 (D : Nat) : ∀ (j i : Nat) (s : Mem), i + j = tp.length → tp.length ≤ 48 → Ag s 85 tp → (∀ k, k < i → rI s 127 k = tg tp k) → ∃ s1, L_M_hear_122 D (tp.length : Int) (i : Int) s = some (((tp.length / 3 : Nat) : Int), wI s1 84 66 ((tp.length / 3 : Nat) : Int)) ∧ Fr (fun a _ => a = 127) s s1 ∧ ∀ k, k < tp.length → rI s1 127 k = tg tp k
  | 0, i, s, hi, hl, h, hk => by
    have ed : iDiv (tp.length : Int) 3 = ((tp.length / 3 : Nat) : Int) := by
      rw [iDiv_n ⟨by omega, by omega⟩ ⟨by omega, by omega⟩, Int.tdiv_eq_ediv_of_nonneg (by omega)]
      omega
    rw [e_M_hear_122, if_neg (by omega), ed]
    exact ⟨s, rfl, Fr.rf, fun k hk2 => hk k (by omega)⟩
  | j + 1, i, s, hi, hl, h, hk => by
    have f1 : Fr (fun a _ => a = 127) s (wI s 127 i (tg tp i)) := Fr.rf.w (P := fun a _ => a = 127) rfl
    have h0 : rI s 85 i = tg tp i := h i (by omega)
    obtain ⟨s1, e1, f2, g1⟩ := m_hear122 D j (i + 1) (wI s 127 i (tg tp i)) (by omega) hl (h.fr f1 (fun k _ => by omega)) (fun k hk2 => by
      by_cases c : k = i
      · rw [c, rI_same]
      · rw [rI_other _ _ _ _ (by omega)]; exact hk k (by omega))
    rw [e_M_hear_122, if_pos (by omega), inB_n (by omega), inB_n (by omega), Int.toNat_natCast, h0, w32_s (by omega)]
    exact ⟨s1, e1, f1.tr f2, g1⟩
abbrev PHm : Nat → Nat → Prop := fun a k => a = 84 ∧ (k = 1 ∨ k = 66) ∨ a = 127
theorem m_hear (D : Nat) {s : Mem} {n : Nat} (h : MTp s tp) (hb : Bys tp) (hn : rI s 114 3 = (n : Int)) (h9 : n ≤ 9) : (hearB n tp = true → ∃ s1, f_M_hear (D + 3) s = some (((tp.length / 3 : Nat) : Int), s1) ∧ Fr PHm s s1 ∧ MHu s1 (tp.length / 3) (tg tp) ∧ MTp s1 []) ∧ (hearB n tp = false → f_M_hear (D + 3) s = some (-1, wI (wI s 84 1 0) 86 1 (w32 (rI s 86 1 + 1)))) := by
  have hl6 := h.2.1
  have f0 : Fr PHm s (wI s 84 1 0) := Fr.rf.w (by unfold PHm; omega)
  have href : f_M_refuses (D + 2) 1 (wI s 84 1 0) = some (-1, wI (wI s 84 1 0) 86 1 (w32 (rI (wI s 84 1 0) 86 1 + 1))) := m_refs (D + 1) _ (k := 1) (by omega)
  rw [rI_other _ _ _ _ (by omega)] at href
  have ed : iDiv (tp.length : Int) 3 = ((tp.length / 3 : Nat) : Int) := by
    rw [iDiv_n ⟨by omega, by omega⟩ ⟨by omega, by omega⟩, Int.tdiv_eq_ediv_of_nonneg (by omega)]
    omega
  have er : iRem (tp.length : Int) 3 = ((tp.length % 3 : Nat) : Int) := by
    rw [iRem_n ⟨by omega, by omega⟩ ⟨by omega, by omega⟩, Int.tmod_eq_emod_of_nonneg (by omega)]
    omega
  have l110 : L_M_hear_110 (D + 2) (tp.length : Int) 0 (wI s 84 1 0) = some (-1, wI (wI s 84 1 0) 86 1 (w32 (rI s 86 1 + 1))) := by
    rw [e_M_hear_110, if_pos rfl, href, Option.bind_some]
  have l36 : L_M_hear_36 (D + 2) (tp.length : Int) 0 0 (wI s 84 1 0) = some (-1, wI (wI s 84 1 0) 86 1 (w32 (rI s 86 1 + 1))) := by
    rw [e_M_hear_36]
    by_cases c : 0 < (tp.length : Int)
    · rw [if_pos c, if_pos rfl]; exact l110
    · rw [if_neg c]; exact l110
  rw [e_M_hear, h.1, ed, er]
  by_cases c1 : 0 < tp.length
  · rw [if_pos (by omega)]
    by_cases c2 : tp.length % 3 = 0
    · rw [if_pos (by omega)]
      by_cases c3 : 16 < tp.length / 3
      · have hB : hearB n tp = false := by unfold hearB; rw [if_pos c1, if_pos c2, if_pos c3]
        rw [if_pos (by omega), l36, hB]
        exact ⟨fun h => (by cases h), fun _ => rfl⟩
      · have hB : hearB n tp = heB tp n (tp.length / 3) 0 := by unfold hearB; rw [if_pos c1, if_pos c2, if_neg c3]
        have h36 := m_hear36 D (s := wI s 84 1 0) ((rI_other _ _ _ _ (by omega)).trans hn) h9 (h.2.2.fr f0 (fun i _ => by unfold PHm; omega)) hb hl6 (by omega) (tp.length / 3) 0 (by omega)
        rw [if_neg (by omega), hB]
        constructor
        · intro hi
          rw [hi, if_pos rfl] at h36
          obtain ⟨s1, e1, f1, g1⟩ := m_hear122 (D + 2) tp.length 0 (wI s 84 1 0) (by omega) (by omega) (h.2.2.fr f0 (fun i _ => by unfold PHm; omega)) (fun k hk => absurd hk (Nat.not_lt_zero k))
          refine ⟨wI s1 84 66 ((tp.length / 3 : Nat) : Int), h36.trans ?_, (f0.tr (f1.mo (fun a k q => by unfold PHm; omega))).w (by unfold PHm; omega), ⟨rI_same _ _ _ _, fun i hi => ?_⟩, ⟨?_, by simp, fun i hi => absurd hi (Nat.not_lt_zero i)⟩⟩
          · rw [e_M_hear_110, if_neg (show ¬ ((1 : Int) = 0) by decide)]; exact e1
          · rw [rI_other _ _ _ _ (by omega)]; exact g1 i (by omega)
          · rw [rI_other _ _ _ _ (by omega), f1.i (by omega), rI_same]; rfl
        · intro hi
          rw [hi, if_neg (show ¬ (false = true) by decide)] at h36
          exact h36.trans l110
    · have hB : hearB n tp = false := by unfold hearB; rw [if_pos c1, if_neg c2]
      rw [if_neg (by omega), l36, hB]
      exact ⟨fun h => (by cases h), fun _ => rfl⟩
  · have hB : hearB n tp = false := by unfold hearB; rw [if_neg c1]
    rw [if_neg (by omega), l36, hB]
    exact ⟨fun h => (by cases h), fun _ => rfl⟩
end HEAR
