/-! the class's value of a code -/
theorem XC.fr {s s' : Mem} {o : Nat} {cs : List Int} {P : Nat → Nat → Prop} (h : XC s o cs) (hf : Fr P s s') (hp : ∀ k, ¬ P o k ∧ ¬ P (o + 1) k) : XC s' o cs := ⟨(hf.i (hp 1).1).trans h.1, h.2.1, fun i hi => (hf.i (hp i).2).trans (h.2.2 i hi)⟩
theorem XT.fr {s s' : Mem} {t : Nat} {T : Tab} {P : Nat → Nat → Prop} (h : XT s t T) (hf : Fr P s s') (hp : ∀ a k, P a k → 28 ≤ a) : XT s' t T := by
  obtain ⟨h1, h2, h3, h4, h5, h6, h7⟩ := h
  have hn : ∀ a k, a < 28 → ¬ P a k := fun a k ha q => by have := hp a k q; omega
  exact ⟨h1, (hf.i (hn _ _ (by omega))).trans h2, (hf.i (hn _ _ (by omega))).trans h3, fun k hk => (hf.i (hn _ _ (by omega))).trans (h4 k hk), h5.fr hf (fun k => ⟨hn _ _ (by omega), hn _ _ (by omega)⟩), h6.fr hf (fun k => ⟨hn _ _ (by omega), hn _ _ (by omega)⟩), h7.fr hf (fun k => ⟨hn _ _ (by omega), hn _ _ (by omega)⟩)⟩
theorem XR.fr {s s' : Mem} {o : Nat} {T : Tab} {w : Nat → Int} {P : Nat → Nat → Prop} (h : XR s o T w) (hf : Fr P s s') (hp : ∀ a k, P a k → 28 ≤ a ∧ (a < o ∨ o + 5 ≤ a ∨ (a = o ∧ k = 3))) : XR s' o T w := by
  obtain ⟨h1, h2, h3, h4, h5, h6, h7, h8⟩ := h
  have hn : ∀ a k, (o < a ∧ a < o + 5 ∨ a = o ∧ k ≠ 3) → ¬ P a k := fun a k ha q => by have := hp a k q; omega
  refine ⟨h1, ?_, (hf.i (hn _ _ (by omega))).trans h3, ?_, fun k hk => (hf.i (hn _ _ (by omega))).trans (h5 k hk), fun k hk => (hf.i (hn _ _ (by omega))).trans (h6 k hk), fun k hk => (hf.i (hn _ _ (by omega))).trans (h7 k hk), fun q hq => (hf.i (hn _ _ (by omega))).trans (h8 q hq)⟩
  · rw [hf.q (hn _ _ (by omega))]
    exact h2.fr hf (fun a k q => (hp a k q).1)
  · rw [hf.i (hn _ _ (by omega))]
    exact h4
theorem tmod_r (a : Int) {b : Int} (hb : 0 < b) : (a < 0 → Int.tmod a b = 0 → a % b = 0) ∧ (a < 0 → Int.tmod a b ≠ 0 → a % b = Int.tmod a b + b) ∧ (0 ≤ a → a % b = Int.tmod a b) := by
  have e := Int.tmod_add_mul_tdiv a b
  have e2 : a % b = Int.tmod a b % b := by
    conv => lhs; rw [← e]
    exact Int.add_mul_emod_self_left _ _ _
  have hl : (Int.tmod a b).natAbs < b.natAbs := by
    rw [Int.natAbs_tmod]
    exact Nat.mod_lt _ (by omega)
  refine ⟨fun h1 h2 => by rw [e2, h2]; exact Int.zero_emod b, fun h1 h2 => ?_, fun h1 => ?_⟩
  · have h3 : 0 ≤ Int.tmod (-a) b := Int.tmod_nonneg b (by omega)
    rw [Int.neg_tmod] at h3
    rw [e2, ← Int.add_emod_right, Int.emod_eq_of_lt (by omega) (by omega)]
  · exact (Int.tmod_eq_emod_of_nonneg h1).symm
theorem x_floorMod (D : Nat) {a b : Int} (s : Mem) (ha : -1000000000 ≤ a ∧ a ≤ 1000000000) (hb : 0 < b ∧ b < 1000) : f_Math_floorMod (D + 1) a b s = some (a % b, s) := by
  obtain ⟨h1, h2, h3⟩ := tmod_r a hb.1
  have hm : (Int.tmod a b).natAbs ≤ a.natAbs := by rw [Int.natAbs_tmod]; exact Nat.mod_le _ _
  have hX : iXor a b < 0 ↔ ¬ (a < 0 ↔ b < 0) := by rw [iXor_neg ⟨by omega, by omega⟩ ⟨by omega, by omega⟩]
  rw [e_Math_floorMod, if_neg (by omega), iRem_n ha ⟨by omega, by omega⟩]
  by_cases hz : a < 0
  · rw [if_pos (hX.mpr (by omega))]
    by_cases hr : Int.tmod a b = 0
    · rw [if_pos hr, h1 hz hr, hr]
    · rw [if_neg hr, h2 hz hr, w32_i (by omega) (by omega)]
  · rw [if_neg (fun q => hX.mp q (by omega)), h3 (by omega)]
theorem x_floorDiv (D : Nat) {a b : Int} (s : Mem) (ha : -1000000 ≤ a ∧ a ≤ 1000000) (hb : -1000000 ≤ b ∧ b ≤ 1000000) (h0 : b ≠ 0) : f_Math_floorDiv (D + 1) a b s = some (flo a b, s) := by
  have hm := Int.natAbs_tdiv_le_natAbs a b
  have he := Int.tmod_add_tdiv_mul a b
  have hm2 : (Int.tmod a b).natAbs ≤ a.natAbs := by rw [Int.natAbs_tmod]; exact Nat.mod_le _ _
  have hX : iXor a b < 0 ↔ ¬ (a < 0 ↔ b < 0) := by rw [iXor_neg ⟨by omega, by omega⟩ ⟨by omega, by omega⟩]
  rw [e_Math_floorDiv, if_neg h0, iDiv_n ⟨by omega, by omega⟩ ⟨by omega, by omega⟩, w32_i (z := Int.tdiv a b * b) (by omega) (by omega)]
  unfold flo
  rw [if_neg h0]
  by_cases h1 : Int.tdiv a b * b = a
  · simp only [if_pos h1, ite_self]
  · by_cases h2 : (a < 0 ↔ b < 0)
    · rw [if_neg (fun q => hX.mp q h2), if_neg h1, if_pos h2]
    · rw [if_pos (hX.mpr h2), if_neg h1, if_neg h1, if_neg h2, w32_i (by omega) (by omega)]
theorem x_held (D : Nat) (v : Int) (s : Mem) (hv : -1000000000000000 ≤ v ∧ v ≤ 1000000000000000) : f_Rg_held (D + 1) v s = some (clp v, s) := by
  rw [e_Rg_held]
  unfold clp
  simp only [lC_gt, lC_lt]
  by_cases h1 : 1000000 < v
  · rw [if_pos h1, if_pos h1]
  · rw [if_neg h1, if_neg h1]
    by_cases h2 : v < -1000000
    · rw [if_pos h2, if_pos h2]
    · rw [if_neg h2, if_neg h2, w32_i (by omega) (by omega)]
theorem mul_r {a b : Int} (ha : -1000000 ≤ a ∧ a ≤ 1000000) (hb : -1000000 ≤ b ∧ b ≤ 1000000) : -1000000000000 ≤ a * b ∧ a * b ≤ 1000000000000 := by
  have h : (a * b).natAbs ≤ 1000000 * 1000000 := by
    rw [Int.natAbs_mul]
    exact Nat.mul_le_mul (by omega) (by omega)
  omega
theorem x_joined (D : Nat) {c a b : Int} (s : Mem) (hc : 1 ≤ c ∧ c ≤ 11) (ha : -1000000 ≤ a ∧ a ≤ 1000000) (hb : -1000000 ≤ b ∧ b ≤ 1000000) (ht : 10 ≤ c → (a = 0 ∨ a = 1) ∧ (b = 0 ∨ b = 1)) : f_Rg_joined (D + 2) (enX c - 10000) a b s = some (jn c a b, s) := by
  have hm := mul_r ha hb
  have hcc : c = 1 ∨ c = 2 ∨ c = 3 ∨ c = 4 ∨ c = 5 ∨ c = 6 ∨ c = 7 ∨ c = 8 ∨ c = 9 ∨ c = 10 ∨ c = 11 := by omega
  rcases hcc with rfl | rfl | rfl | rfl | rfl | rfl | rfl | rfl | rfl | rfl | rfl
  · rw [show enX 1 - 10000 = 43 by decide, e_Rg_joined]
    simp only [jn, Int.reduceEq, if_false, if_true]
    rw [w64_i (by omega) (by omega), x_held D _ s (by omega), Option.bind_some]
  · rw [show enX 2 - 10000 = 45 by decide, e_Rg_joined]
    simp only [jn, Int.reduceEq, if_false, if_true]
    rw [w64_i (by omega) (by omega), x_held D _ s (by omega), Option.bind_some]
  · rw [show enX 3 - 10000 = 42 by decide, e_Rg_joined]
    simp only [jn, Int.reduceEq, if_false, if_true]
    rw [w64_i (by omega) (by omega), x_held D _ s (by omega), Option.bind_some]
  · rw [show enX 4 - 10000 = 47 by decide, e_Rg_joined]
    simp only [jn, Int.reduceEq, if_false, if_true]
    by_cases h : b = 0
    · rw [if_pos h]
      unfold flo
      rw [if_pos h]
    · rw [if_neg h, x_floorDiv D s ha hb h, Option.bind_some]
  · rw [show enX 5 - 10000 = 25 by decide, e_Rg_joined]
    simp only [jn, Int.reduceEq, if_false, if_true]
    split <;> rfl
  · rw [show enX 6 - 10000 = 26 by decide, e_Rg_joined]
    simp only [jn, Int.reduceEq, if_false, if_true]
    split <;> rfl
  · rw [show enX 7 - 10000 = 60 by decide, e_Rg_joined]
    simp only [jn, Int.reduceEq, if_false, if_true]
    split <;> rfl
  · rw [show enX 8 - 10000 = 62 by decide, e_Rg_joined]
    simp only [jn, Int.reduceEq, if_false, if_true]
    split <;> rfl
  · rw [show enX 9 - 10000 = 61 by decide, e_Rg_joined]
    simp only [jn, Int.reduceEq, if_false, if_true]
    split <;> rfl
  · rw [show enX 10 - 10000 = 22 by decide, e_Rg_joined]
    simp only [jn, Int.reduceEq, if_false, if_true]
    obtain ⟨ha, hb⟩ := ht (by omega)
    have h00 : iAnd 0 0 = 0 ∧ iAnd 0 1 = 0 ∧ iAnd 1 0 = 0 ∧ iAnd 1 1 = 1 ∧ iOr 0 0 = 0 ∧ iOr 0 1 = 1 ∧ iOr 1 0 = 1 ∧ iOr 1 1 = 1 := by decide +kernel
    obtain ⟨a1, a2, a3, a4, a5, a6, a7, a8⟩ := h00
    rcases ha with rfl | rfl <;> rcases hb with rfl | rfl <;> simp [a1, a2, a3, a4, a5, a6, a7, a8]
  · rw [show enX 11 - 10000 = 21 by decide, e_Rg_joined]
    simp only [jn, Int.reduceEq, if_false, if_true]
    obtain ⟨ha, hb⟩ := ht (by omega)
    have h00 : iAnd 0 0 = 0 ∧ iAnd 0 1 = 0 ∧ iAnd 1 0 = 0 ∧ iAnd 1 1 = 1 ∧ iOr 0 0 = 0 ∧ iOr 0 1 = 1 ∧ iOr 1 0 = 1 ∧ iOr 1 1 = 1 := by decide +kernel
    obtain ⟨a1, a2, a3, a4, a5, a6, a7, a8⟩ := h00
    rcases ha with rfl | rfl <;> rcases hb with rfl | rfl <;> simp [a1, a2, a3, a4, a5, a6, a7, a8]
section XVAL
variable {s : Mem} {o : Nat} {T : Tab} {w : Nat → Int}
theorem x_known (D : Nat) (hx : XR s o T w) (ht : Tf T) (hw : Wf T w) {k : Nat} (hk : k < tG T) (size : Int) {p : Int} (h0 : 0 ≤ p) (h1 : p < 11) : f_Rg_known (D + 2) o (xpt p) (k : Int) size s = some (kno T w k size p, s) := by
  have hg := ht.2.2.1
  have hn := ht.2.1
  have hn3 := ht.1
  have hs := (hw.2.2.1 k hk).1
  have es := hx.2.2.2.2.1 k hk
  rw [e_Rg_known, if_neg (by omega), if_pos (by omega), inB_n (by omega)]
  simp only [inB_n (show k < 7 by omega), Int.toNat_natCast, es]
  have hcc : p = 0 ∨ p = 1 ∨ p = 2 ∨ p = 3 ∨ p = 4 ∨ p = 5 ∨ p = 6 ∨ p = 7 ∨ p = 8 ∨ p = 9 ∨ p = 10 := by omega
  rcases hcc with rfl | rfl | rfl | rfl | rfl | rfl | rfl | rfl | rfl | rfl | rfl
  · simp only [show xpt 0 = 3 from rfl, Int.reduceEq, if_false, if_true, hx.2.2.2.2.2.2.1 k hk]
    rfl
  · simp only [show xpt 1 = 4 from rfl, Int.reduceEq, if_false, if_true, hx.2.1.2.2.2.1 k hk]
    rfl
  · simp only [show xpt 2 = 10 from rfl, Int.reduceEq, if_false, if_true, hx.2.2.2.2.2.1 k hk]
    rfl
  · simp only [show xpt 3 = 11 from rfl, Int.reduceEq, if_false, if_true, hx.2.2.1]
    rfl
  · simp only [show xpt 4 = 12 from rfl, Int.reduceEq, if_false, if_true]
    rw [w32_i (by omega) (by omega), x_swellIn D hx ht (by omega) (by omega)]
    rfl
  · simp only [show xpt 5 = 13 from rfl, Int.reduceEq, if_false, if_true]
    rw [w32_i (by omega) (by omega), x_swellIn D hx ht (by omega) (by omega)]
    rfl
  · simp only [show xpt 6 = 14 from rfl, Int.reduceEq, if_false, if_true]
    rw [x_hoop hx hs.1 (by omega)]
    rfl
  · simp only [show xpt 7 = 15 from rfl, Int.reduceEq, if_false, if_true]
    rw [x_loadOf D hx ht hw hs.1 hs.2]
    rfl
  · simp only [show xpt 8 = 16 from rfl, Int.reduceEq, if_false, if_true]
    rfl
  · simp only [show xpt 9 = 17 from rfl, Int.reduceEq, if_false, if_true]
    rfl
  · simp only [show xpt 10 = 18 from rfl, Int.reduceEq, if_false, if_true]
    rfl
theorem emod_rr (a : Int) {n : Nat} (h : 0 < n) : 0 ≤ a % (n : Int) ∧ a % (n : Int) < (n : Int) := ⟨Int.emod_nonneg _ (by omega), Int.emod_lt_of_pos _ (by omega)⟩
theorem x_turned (D : Nat) (hx : XR s o T w) (ht : Tf T) (hw : Wf T w) {k : Nat} (hk : k < tG T) {p v : Int} (hp : p = 0 ∨ p = 1) (hv : -1000000 ≤ v ∧ v ≤ 1000000) : f_Rg_turned (D + 2) o (p + 19) v (k : Int) s = some (unk T w k p v, s) := by
  have hg := ht.2.2.1
  have hn := ht.2.1
  have hn3 := ht.1
  have hs := (hw.2.2.1 k hk).1
  have es := hx.2.2.2.2.1 k hk
  have hne : ¬ (p + 19 = 23) := by omega
  rw [e_Rg_turned, if_neg hne, if_neg (by omega), if_pos (by omega), hx.n, if_pos (by omega)]
  simp only [inB_n (show k < 7 by omega), Int.toNat_natCast, es, hx.g]
  unfold unk
  rcases hp with rfl | rfl
  · rw [if_pos (by omega), if_pos rfl, w32_i (by omega) (by omega), x_floorMod D s (by omega) (by omega)]
    have hr := emod_rr (w (10 + 2 * k) + v) (n := tN T) (by omega)
    show (f_Rg_swellIn (D + 1) o _ s).bind _ = _
    rw [x_swellIn D hx ht (by omega) (by omega)]
    rfl
  · rw [if_neg (by omega), if_neg (show ¬ (1 : Int) = 0 by omega)]
    by_cases h1 : v < 0
    · rw [if_pos h1, if_neg (by omega)]
    · rw [if_neg h1]
      by_cases h2 : v < (tG T : Int)
      · obtain ⟨j, rfl⟩ := Int.eq_ofNat_of_zero_le (show 0 ≤ v by omega)
        have hj := (hw.2.2.1 j (by omega)).1
        rw [if_pos h2, if_pos (by omega), inB_n (by omega), if_pos (by omega)]
        simp only [Int.toNat_natCast, hx.2.2.2.2.1 j (by omega)]
        rw [w32_i (by omega) (by omega), e_Math_abs]
        unfold fart
        generalize hd : w (10 + 2 * k) - w (10 + 2 * j) = d
        by_cases h3 : d < 0
        · simp only [if_pos h3]
          rw [w32_i (by omega) (by omega)]
          show (f_Math_min (D + 1) _ (w32 (rI s (rQ s o 0) 1 - -d)) s).bind _ = _
          rw [hx.n, w32_i (by omega) (by omega), e_Math_min]
          by_cases h4 : (tN T : Int) - -d < -d
          · rw [if_pos h4, if_neg (by omega)]; rfl
          · rw [if_neg h4]
            by_cases h5 : -d < (tN T : Int) - -d
            · rw [if_pos h5]; rfl
            · rw [if_neg h5, show (tN T : Int) - -d = -d by omega]; rfl
        · simp only [if_neg h3]
          show (f_Math_min (D + 1) _ (w32 (rI s (rQ s o 0) 1 - d)) s).bind _ = _
          rw [hx.n, w32_i (by omega) (by omega), e_Math_min]
          by_cases h4 : (tN T : Int) - d < d
          · rw [if_pos h4, if_neg (by omega)]; rfl
          · rw [if_neg h4]
            by_cases h5 : d < (tN T : Int) - d
            · rw [if_pos h5]; rfl
            · rw [if_neg h5, show (tN T : Int) - d = d by omega]; rfl
      · rw [if_neg h2, if_neg (by omega)]
end XVAL
