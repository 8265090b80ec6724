/-! the reference's ring -/
def dfl (k : Nat) : List Int := if k = 0 then [40] else if k = 1 then [42, 1050, 8] else [48, 1002, 4]
def MC (s : Mem) (k : Nat) (cs : List Int) : Prop := (∃ a : Nat, rI s 119 (3 + k) = (a : Int) ∧ rI s 120 (3 + k) = ((a + cs.length : Nat) : Int) ∧ a + cs.length ≤ 1600 ∧ ∀ i, i < cs.length → rI s 121 (1600 + (a + i)) = cs.getD i 0) ∨ (rI s 119 (3 + k) = -1 ∧ cs = dfl k)
def MT (s : Mem) (T : Tab) : Prop := rI s 114 3 = (tN T : Int) ∧ rI s 114 4 = (tG T : Int) ∧ (∀ k, k < tG T → (if (k : Int) = rI s 84 53 then rI s 84 54 else rI s 116 (14 + 2 * k)) = tW T k) ∧ (∀ k, k < tG T → rI s 116 (15 + 2 * k) = tH T k) ∧ MC s 0 (tC T 0) ∧ MC s 1 (tC T 1) ∧ MC s 2 (tC T 2)
def MW (s : Mem) (w : Nat → Int) : Prop := ∀ i, i < 24 → rI s 122 i = w i
theorem MC.fr {s s' : Mem} {k : Nat} {cs : List Int} {P : Nat → Nat → Prop} (h : MC s k cs) (hf : Fr P s s') (hp : ∀ a i, P a i → a < 119 ∨ 121 < a) : MC s' k cs := by
  have hn : ∀ a i, (119 ≤ a ∧ a ≤ 121) → ¬ P a i := fun a i ha q => by have := hp a i q; omega
  rcases h with ⟨a, h1, h2, h3, h4⟩ | ⟨h1, h2⟩
  · exact Or.inl ⟨a, (hf.i (hn _ _ (by omega))).trans h1, (hf.i (hn _ _ (by omega))).trans h2, h3, fun i hi => (hf.i (hn _ _ (by omega))).trans (h4 i hi)⟩
  · exact Or.inr ⟨(hf.i (hn _ _ (by omega))).trans h1, h2⟩
/-- what lies outside a table's own cells -/
def PMT (P : Nat → Nat → Prop) : Prop := ∀ a i, P a i → (a ≠ 114 ∧ a ≠ 116 ∧ (a < 119 ∨ 121 < a)) ∧ (a = 84 → i ≠ 53 ∧ i ≠ 54)
theorem MT.fr {s s' : Mem} {T : Tab} {P : Nat → Nat → Prop} (h : MT s T) (hf : Fr P s s') (hp : PMT P) : MT s' T := by
  obtain ⟨h1, h2, h3, h4, h5, h6, h7⟩ := h
  have hn : ∀ a i, (a = 114 ∨ a = 116 ∨ a = 84 ∧ (i = 53 ∨ i = 54)) → ¬ P a i := fun a i ha q => by have := hp a i q; omega
  have hm : ∀ a i, P a i → a < 119 ∨ 121 < a := fun a i q => (hp a i q).1.2.2
  refine ⟨(hf.i (hn _ _ (by omega))).trans h1, (hf.i (hn _ _ (by omega))).trans h2, fun k hk => ?_, fun k hk => (hf.i (hn _ _ (by omega))).trans (h4 k hk), h5.fr hf hm, h6.fr hf hm, h7.fr hf hm⟩
  rw [hf.i (hn 84 53 (by omega)), hf.i (hn 84 54 (by omega)), hf.i (hn 116 _ (by omega))]
  exact h3 k hk
theorem MW.fr {s s' : Mem} {w : Nat → Int} {P : Nat → Nat → Prop} (h : MW s w) (hf : Fr P s s') (hp : ∀ a i, P a i → a ≠ 122) : MW s' w := fun i hi => (hf.i (fun q => hp _ _ q rfl)).trans (h i hi)
theorem w32_10 {k : Nat} (h : k < 100) : w32 (10 + (w32 (2 * (k : Int)))) = ((10 + 2 * k : Nat) : Int) := by rw [w32_i (z := 2 * (k : Int)) (by omega) (by omega), w32_i (by omega) (by omega)]; omega
theorem w32_11 {k : Nat} (h : k < 100) : w32 (11 + (w32 (2 * (k : Int)))) = ((11 + 2 * k : Nat) : Int) := by rw [w32_i (z := 2 * (k : Int)) (by omega) (by omega), w32_i (by omega) (by omega)]; omega
theorem w32_14 {k : Nat} (h : k < 100) : w32 (14 + (w32 (2 * (k : Int)))) = ((14 + 2 * k : Nat) : Int) := by rw [w32_i (z := 2 * (k : Int)) (by omega) (by omega), w32_i (by omega) (by omega)]; omega
theorem w32_15 {k : Nat} (h : k < 100) : w32 (15 + (w32 (2 * (k : Int)))) = ((15 + 2 * k : Nat) : Int) := by rw [w32_i (z := 2 * (k : Int)) (by omega) (by omega), w32_i (by omega) (by omega)]; omega
theorem m_isIn (D : Nat) (a b c : Int) (s : Mem) : f_M_isIn (D + 1) a b c s = some (if b ≤ a ∧ a ≤ c then 1 else 0, s) := by
  rw [e_M_isIn]
  simp only [lC_lt, lC_gt]
  split
  · rw [if_neg (by omega)]
  · split
    · rw [if_neg (by omega)]
    · rw [if_pos (by omega)]
theorem m_cut (D : Nat) {v : Int} (s : Mem) (h : -1000000000 ≤ v ∧ v ≤ 1000000000) : f_M_cut (D + 1) v s = some (cut v, s) := by
  rw [e_M_cut]
  simp only [lC_lt, lC_gt]
  unfold cut
  split
  · rfl
  · split
    · rfl
    · rw [w32_i (by omega) (by omega)]
section MRING
variable {s : Mem} {T : Tab} {w : Nat → Int}
theorem m_n (D : Nat) (hm : MT s T) : f_M_seatMany (D + 1) s = some ((tN T : Int), s) := by rw [e_M_seatMany, hm.1]
theorem m_g (D : Nat) (hm : MT s T) : f_M_guestMany (D + 1) s = some ((tG T : Int), s) := by rw [e_M_guestMany, hm.2.1]
theorem m_seatOf (D : Nat) (hw : MW s w) {k : Nat} (hk : k < 7) : f_M_seatOf (D + 1) (k : Int) s = some (w (10 + 2 * k), s) := by
  rw [e_M_seatOf, w32_10 (by omega), inB_n (by omega), Int.toNat_natCast, hw _ (by omega)]
theorem m_swellOf (D : Nat) (hw : MW s w) {k : Nat} (hk : k < 7) (hk2 : 11 + 2 * k < 24 := by omega) : f_M_swellOf (D + 1) (k : Int) s = some (w (11 + 2 * k), s) := by
  rw [e_M_swellOf, w32_11 (by omega), inB_n (by omega), Int.toNat_natCast, hw _ hk2]
theorem m_wetOf (D : Nat) (hm : MT s T) {k : Nat} (hk : k < tG T) (hg : tG T ≤ 7) : f_M_wetOf (D + 1) (k : Int) s = some (tW T k, s) := by
  rw [e_M_wetOf, w32_14 (by omega), inB_n (by omega), Int.toNat_natCast, ← hm.2.2.1 k hk]
  split <;> rfl
theorem m_turned (D : Nat) (hm : MT s T) (hn : tN T ≤ 9) {q : Int} (h : -1000000 ≤ q ∧ q ≤ 1000000) : f_M_turned (D + 2) q s = some (trn (tN T) q, s) := by
  rw [e_M_turned, m_n D hm]
  simp only [Option.bind_some]
  unfold trn
  split
  · rw [w32_i (by omega) (by omega)]
  · split
    · rfl
    · rw [m_n D hm, Option.bind_some, w32_i (by omega) (by omega)]
theorem m_guestAt8 (D : Nat) (hm : MT s T) (hw : MW s w) (hg : tG T ≤ 7) (q : Int) : ∀ (j k : Nat), k + j = tG T → L_M_guestAt_8 (D + 1) q (k : Int) s = some (whoF w q j k, s)
  | 0, k, hk => by
    rw [e_M_guestAt_8, m_g D hm, Option.bind_some, if_neg (by simp; omega)]
    rfl
  | j + 1, k, hk => by
    rw [e_M_guestAt_8, m_g D hm, Option.bind_some, if_pos (by simp; omega), m_seatOf D hw (by omega), Option.bind_some]
    simp only []
    unfold whoF
    split
    · rfl
    · rw [w32_s (by omega)]
      exact m_guestAt8 D hm hw hg q j (k + 1) (by omega)
theorem m_guestAt (D : Nat) (hm : MT s T) (hw : MW s w) (hn : tN T ≤ 9) (hg : tG T ≤ 7) {q : Int} (h : -1000000 ≤ q ∧ q ≤ 1000000) : f_M_guestAt (D + 3) q s = some (who w (tG T) (trn (tN T) q), s) := by
  rw [e_M_guestAt, m_turned D hm hn h, Option.bind_some]
  exact m_guestAt8 (D + 1) hm hw hg _ (tG T) 0 (by omega)
theorem m_swellAt (D : Nat) (hm : MT s T) (hw : MW s w) (hn : tN T ≤ 9) (hg : tG T ≤ 7) {q : Int} (h : -1000000 ≤ q ∧ q ≤ 1000000) : f_M_swellAt (D + 4) q s = some (swA T w q, s) := by
  rw [e_M_swellAt, m_guestAt D hm hw hn hg h, Option.bind_some]
  unfold swA
  rcases who_or w (tG T) (trn (tN T) q) with ⟨h1, -⟩ | ⟨i, h2, h3, -⟩
  · simp only [h1, if_true]
  · simp only [h3, Int.toNat_natCast]
    rw [if_neg (by omega), if_neg (by omega), m_swellOf (D + 2) hw (by omega)]
    rfl
theorem swA_r (hw : Wf T w) (q : Int) : 0 ≤ swA T w q ∧ swA T w q ≤ 99 := by
  unfold swA
  rcases who_or w (tG T) (trn (tN T) q) with ⟨a1, _⟩ | ⟨i, a2, a3, _⟩
  · rw [if_pos a1]; omega
  · rw [a3, if_neg (by omega), Int.toNat_natCast]
    exact (hw.2.2.1 i a2).2
theorem m_loadAt (D : Nat) (hm : MT s T) (hw : MW s w) (hf : Wf T w) (hn : tN T ≤ 9) (hg : tG T ≤ 7) {q : Int} (h : -1000 ≤ q ∧ q ≤ 1000) : f_M_loadAt (D + 5) q s = some (lod T w q, s) := by
  have h1 := swA_r hf (q - 1)
  have h2 := swA_r hf q
  have h3 := swA_r hf (q + 1)
  rw [e_M_loadAt, w32_i (by omega) (by omega), m_swellAt D hm hw hn hg (by omega), Option.bind_some]
  simp only []
  rw [m_swellAt D hm hw hn hg (by omega), Option.bind_some]
  simp only []
  rw [w32_i (by omega) (by omega), m_swellAt D hm hw hn hg (by omega), Option.bind_some]
  simp only []
  rw [w32_i (z := swA T w (q - 1) + swA T w q) (by omega) (by omega), w32_i (by omega) (by omega)]
  rfl
theorem m_isTold (D : Nat) (hm : MT s T) {k : Nat} (hk : k < 3) : f_M_isTold (D + 1) (k : Int) s = some (if rI s 119 (3 + k) = -1 then 0 else 1, s) := by
  have e : w32 (3 + (k : Int)) = ((3 + k : Nat) : Int) := by rw [w32_i (by omega) (by omega)]; omega
  rw [e_M_isTold, e, inB_n (by omega), Int.toNat_natCast]
  split <;> rfl
/-- a part of a code -/
theorem m_part (D : Nat) {k : Nat} {size : Int} (hm : MT s T) (hw : MW s w) (hf : Wf T w) (ht : Tf T) (hk : k < tG T) (ha : rI s 84 55 = (k : Int)) {p : Int} (hz : p = 8 → rI s 84 56 = size) (hp : 0 ≤ p ∧ p < 11) (c : Int) : f_M_qPartOf (D + 6) p c s = some (kno T w k size p, s) := by
  have hg := ht.2.2.1
  have hn := ht.2.1
  have hs := (hf.2.2.1 k hk).1
  rw [e_M_qPartOf, ha]
  have hcc : p = 0 ∨ p = 1 ∨ p = 2 ∨ p = 3 ∨ p = 4 ∨ p = 5 ∨ p = 6 ∨ p = 7 ∨ p = 8 ∨ p = 9 ∨ p = 10 := by omega
  rcases hcc with rfl | rfl | rfl | rfl | rfl | rfl | rfl | rfl | rfl | rfl | rfl <;> simp only [kno, Int.reduceEq, if_false, if_true]
  · rw [m_wetOf (D + 4) hm hk hg, Option.bind_some]
  · rw [w32_15 (by omega), inB_n (by omega), Int.toNat_natCast, hm.2.2.2.1 k hk]
  · rw [m_swellOf (D + 4) hw (by omega), Option.bind_some]
  · rw [hw 0 (by omega)]
  · rw [m_seatOf (D + 4) hw (by omega), Option.bind_some]
    simp only []
    rw [w32_i (by omega) (by omega), m_swellAt (D + 1) hm hw hn hg (by omega), Option.bind_some]
  · rw [m_seatOf (D + 4) hw (by omega), Option.bind_some]
    simp only []
    rw [w32_i (by omega) (by omega), m_swellAt (D + 1) hm hw hn hg (by omega), Option.bind_some]
  · rw [m_seatOf (D + 4) hw (by omega), Option.bind_some]
    simp only []
    have e : w32 (1 + w (10 + 2 * k)) = ((1 + (w (10 + 2 * k)).toNat : Nat) : Int) := by rw [w32_i (by omega) (by omega)]; omega
    rw [e, inB_n (by omega), Int.toNat_natCast, hw _ (by omega)]
  · rw [m_seatOf (D + 4) hw (by omega), Option.bind_some]
    simp only []
    rw [m_loadAt D hm hw hf hn hg (by omega), Option.bind_some]
  · rw [hz rfl]
  · rw [m_seatOf (D + 4) hw (by omega), Option.bind_some]
theorem m_clip (D : Nat) (v : Int) (s : Mem) : f_M_qClip (D + 1) v s = some (clp v, s) := by
  rw [e_M_qClip]
  unfold clp
  simp only [lC_gt, lC_lt]
  split
  · rfl
  · split <;> rfl
theorem m_floor (D : Nat) {a b : Int} (s : Mem) (ha : -1000000 ≤ a ∧ a ≤ 1000000) (hb : -1000000 ≤ b ∧ b ≤ 1000000) : f_M_qFloor (D + 1) a b s = some (flo a b, s) := by
  have hm := Int.natAbs_tdiv_le_natAbs a b
  have he := Int.tmod_add_tdiv_mul a b
  rw [e_M_qFloor]
  simp only [lC_eq, lC_lt]
  rw [lDiv_n ⟨by omega, by omega⟩ ⟨by omega, by omega⟩, lRem_n ⟨by omega, by omega⟩ ⟨by omega, by omega⟩]
  unfold flo
  by_cases h0 : b = 0
  · rw [if_pos h0, if_pos h0]
  · rw [if_neg h0, if_neg h0, if_neg h0, if_neg h0]
    by_cases h1 : Int.tmod a b = 0
    · rw [if_pos h1, if_pos (by omega)]
    · have h2 : ¬ Int.tdiv a b * b = a := by omega
      rw [if_neg h1, if_neg h2]
      have key : ∀ c : Int, (c = if a < 0 then 1 else 0) → L_M_qFloor_32 D b (Int.tdiv a b) c s = some (if (a < 0 ↔ b < 0) then Int.tdiv a b else Int.tdiv a b - 1, s) := by
        intro c hc
        rw [e_M_qFloor_32]
        simp only [lC_lt]
        by_cases a1 : a < 0
        · rw [if_pos a1] at hc
          by_cases b1 : b < 0
          · rw [if_pos b1, e_M_qFloor_43, if_pos hc, if_pos (by omega)]
          · rw [if_neg b1, e_M_qFloor_43, if_neg (by omega), if_neg (by omega), w64_i (by omega) (by omega)]
        · rw [if_neg a1] at hc
          by_cases b1 : b < 0
          · rw [if_pos b1, e_M_qFloor_43, if_neg (by omega), if_neg (by omega), w64_i (by omega) (by omega)]
          · rw [if_neg b1, e_M_qFloor_43, if_pos hc, if_pos (by omega)]
      by_cases a1 : a < 0
      · rw [if_pos a1]; exact key 1 (by rw [if_pos a1])
      · rw [if_neg a1]; exact key 0 (by rw [if_neg a1])
theorem m_puts (D : Nat) {s : Mem} {f : Nat} (v : Int) (hp : rI s 84 105 = (f : Int)) (hf : f < 1700) : f_M_qPuts (D + 1) v s = some (0, wI (wI s 157 f v) 84 105 ((f + 1 : Nat) : Int)) := by
  rw [e_M_qPuts, hp, inB_n hf, w32_s (by omega), Int.toNat_natCast]
theorem m_joins (D : Nat) {s : Mem} {f : Nat} {c a b : Int} (hp : rI s 84 105 = ((f + 2 : Nat) : Int)) (hf : f < 100) (h1 : rI s 157 f = a) (h2 : rI s 157 (f + 1) = b) (hc : 1 ≤ c ∧ c ≤ 11) (ha : -1000000 ≤ a ∧ a ≤ 1000000) (hb : -1000000 ≤ b ∧ b ≤ 1000000) : f_M_qJoins (D + 2) c s = some (0, wI (wI (wI s 84 105 (f : Int)) 157 f (jn c a b)) 84 105 ((f + 1 : Nat) : Int)) := by
  have e1 : w32 (((f + 2 : Nat) : Int) - 1) = ((f + 1 : Nat) : Int) := by rw [w32_i (by omega) (by omega)]; omega
  have e2 : w32 (((f + 2 : Nat) : Int) - 2) = ((f : Nat) : Int) := by rw [w32_i (by omega) (by omega)]; omega
  have hm := mul_r ha hb
  have put : ∀ (D : Nat) (v : Int), f_M_qPuts (D + 1) v (wI s 84 105 (f : Int)) = some (0, wI (wI (wI s 84 105 (f : Int)) 157 f v) 84 105 ((f + 1 : Nat) : Int)) := fun D v => m_puts D v (by rw [rI_same]) (by omega)
  rw [e_M_qJoins, hp, e1, e2, inB_n (by omega), inB_n (by omega)]
  simp only [Int.toNat_natCast, h1, h2, lC_lt, lC_gt, lC_eq]
  have hcc : c = 1 ∨ c = 2 ∨ c = 3 ∨ c = 4 ∨ c = 5 ∨ c = 6 ∨ c = 7 ∨ c = 8 ∨ c = 9 ∨ c = 10 ∨ c = 11 := by omega
  rcases hcc with rfl | rfl | rfl | rfl | rfl | rfl | rfl | rfl | rfl | rfl | rfl <;> simp only [jn, Int.reduceEq, if_false, if_true]
  · rw [w64_i (by omega) (by omega), m_clip, Option.bind_some, put D, Option.bind_some]
  · rw [w64_i (by omega) (by omega), m_clip, Option.bind_some, put D, Option.bind_some]
  · rw [w64_i (by omega) (by omega), m_clip, Option.bind_some, put D, Option.bind_some]
  · rw [m_floor _ _ ha hb, Option.bind_some, put D, Option.bind_some]
  · split
    · rw [put D, Option.bind_some]
    · rw [put D, Option.bind_some]
  · split
    · rw [put D, Option.bind_some]
    · rw [put D, Option.bind_some]
  · split
    · rw [put D, Option.bind_some]
    · rw [put D, Option.bind_some]
  · split
    · rw [put D, Option.bind_some]
    · rw [put D, Option.bind_some]
  · split
    · rw [put D, Option.bind_some]
    · rw [put D, Option.bind_some]
  · rw [w64_i (by omega) (by omega), put D, Option.bind_some]
  · rw [w64_i (by omega) (by omega)]
    split
    · rw [put D, Option.bind_some]
    · rw [put D, Option.bind_some]
theorem m_turnedTo (D : Nat) (hm : MT s T) (hw : MW s w) (hf : Wf T w) (ht : Tf T) {k : Nat} (hk : k < tG T) {v : Int} (hv : -1000000 ≤ v ∧ v ≤ 1000000) : f_M_turnedTo (D + 2) (k : Int) v s = some ((w (10 + 2 * k) + v) % (tN T : Int), s) := by
  have hg := ht.2.2.1
  have hn := ht.2.1
  have hn3 := ht.1
  have hs := (hf.2.2.1 k hk).1
  obtain ⟨h1, h2, h3⟩ := tmod_r (w (10 + 2 * k) + v) (b := (tN T : Int)) (by omega)
  have hmm : (Int.tmod (w (10 + 2 * k) + v) (tN T : Int)).natAbs ≤ (w (10 + 2 * k) + v).natAbs := by rw [Int.natAbs_tmod]; exact Nat.mod_le _ _
  have hml : (Int.tmod (w (10 + 2 * k) + v) (tN T : Int)).natAbs < (tN T : Int).natAbs := by rw [Int.natAbs_tmod]; exact Nat.mod_lt _ (by omega)
  have hsg : 0 ≤ w (10 + 2 * k) + v → 0 ≤ Int.tmod (w (10 + 2 * k) + v) (tN T : Int) := fun h => Int.tmod_nonneg _ h
  have hsn : w (10 + 2 * k) + v < 0 → Int.tmod (w (10 + 2 * k) + v) (tN T : Int) ≤ 0 := fun h => by
    have h4 : 0 ≤ Int.tmod (-(w (10 + 2 * k) + v)) (tN T : Int) := Int.tmod_nonneg _ (by omega)
    rw [Int.neg_tmod] at h4
    omega
  rw [e_M_turnedTo, m_n (D) hm, Option.bind_some]
  simp only []
  rw [m_seatOf D hw (by omega), Option.bind_some]
  simp only [lC_lt]
  rw [if_neg (by omega), w64_i (by omega) (by omega), lRem_n ⟨by omega, by omega⟩ ⟨by omega, by omega⟩]
  by_cases hz : w (10 + 2 * k) + v < 0
  · by_cases hr : Int.tmod (w (10 + 2 * k) + v) (tN T : Int) = 0
    · rw [if_neg (by omega), h1 hz hr, hr]
      rfl
    · rw [if_pos (by have := hsn hz; omega), h2 hz hr, w64_i (by omega) (by omega), w32_i (by omega) (by omega)]
  · rw [if_neg (by have := hsg (by omega); omega), h3 (by omega), w32_i (by omega) (by omega)]
theorem m_farTo (D : Nat) (hm : MT s T) (hw : MW s w) (hf : Wf T w) (ht : Tf T) {k j : Nat} (hk : k < tG T) (hj : j < tG T) : f_M_farTo (D + 2) (k : Int) (j : Int) s = some (fart T w k j, s) := by
  have hg := ht.2.2.1
  have hn := ht.2.1
  have hs := (hf.2.2.1 k hk).1
  have hs2 := (hf.2.2.1 j hj).1
  rw [e_M_farTo, m_seatOf D hw (by omega), Option.bind_some]
  simp only []
  rw [m_seatOf D hw (by omega), Option.bind_some]
  simp only []
  rw [w32_i (by omega) (by omega)]
  unfold fart
  generalize hd : w (10 + 2 * k) - w (10 + 2 * j) = d
  have l19 : ∀ z : Int, 0 ≤ z → z < 9 → L_M_farTo_19 (D + 1) z s = some (if z < (tN T : Int) - z then z else (tN T : Int) - z, s) := fun z h0 h1 => by
    rw [e_M_farTo_19, m_n D hm, Option.bind_some]
    simp only []
    rw [w32_i (by omega) (by omega)]
    split
    · rfl
    · rw [m_n D hm, Option.bind_some]
      simp only []
      rw [w32_i (by omega) (by omega)]
  by_cases h3 : d < 0
  · simp only [if_pos h3]
    rw [w32_i (by omega) (by omega), l19 _ (by omega) (by omega)]
  · simp only [if_neg h3]
    rw [l19 _ (by omega) (by omega)]
theorem m_isG (D : Nat) (hm : MT s T) (hg : tG T ≤ 7) (v : Int) : f_M_isGuest (D + 2) v s = some (if 0 ≤ v ∧ v < (tG T : Int) then 1 else 0, s) := by
  rw [e_M_isGuest, m_g D hm, Option.bind_some]
  simp only []
  rw [w32_i (by omega) (by omega), m_isIn, Option.bind_some]
  by_cases h : 0 ≤ v ∧ v < (tG T : Int)
  · rw [if_pos (show 0 ≤ v ∧ v ≤ (tG T : Int) - 1 by omega), if_pos h, if_pos (Or.inr rfl)]
  · rw [if_neg (show ¬ (0 ≤ v ∧ v ≤ (tG T : Int) - 1) by omega), if_neg h, if_pos (Or.inl rfl)]
theorem m_of (D : Nat) (hm : MT s T) (hw : MW s w) (hf : Wf T w) (ht : Tf T) {k : Nat} (hk : k < tG T) {p v : Int} (hp : p = 0 ∨ p = 1) (hv : -1000000 ≤ v ∧ v ≤ 1000000) : f_M_qOf (D + 5) p v (k : Int) s = some (unk T w k p v, s) := by
  have hg := ht.2.2.1
  have hn := ht.2.1
  have hn3 := ht.1
  rw [e_M_qOf]
  unfold unk
  rcases hp with rfl | rfl
  · rw [if_pos rfl, if_pos rfl, m_turnedTo (D + 2) hm hw hf ht hk hv, Option.bind_some]
    have hr := emod_rr (w (10 + 2 * k) + v) (n := tN T) (by omega)
    simp only []
    rw [m_swellAt D hm hw hn hg (by omega), Option.bind_some]
  · rw [if_neg (by omega), if_neg (by omega), m_isG (D + 2) hm hg, Option.bind_some]
    simp only []
    by_cases h : 0 ≤ v ∧ v < (tG T : Int)
    · obtain ⟨j, rfl⟩ := Int.eq_ofNat_of_zero_le h.1
      rw [if_pos h, if_neg (by omega), if_pos h, w32_i (by omega) (by omega), m_farTo (D + 2) hm hw hf ht hk (by omega), Option.bind_some, Int.toNat_natCast]
    · rw [if_neg h, if_pos rfl, if_neg h]
end MRING
