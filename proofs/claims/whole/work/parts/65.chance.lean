/-! minutes by the seed, undoing, on both sides -/
def nxd (z : Int) : Int := (1103515245 * z + 12345) % 2147483648
theorem nxd_r (z : Int) : 0 ≤ nxd z ∧ nxd z < 2147483648 := by unfold nxd; omega
theorem lAnd_31 {x : Int} (h0 : 0 ≤ x) (h1 : x < 4611686018427387904) : lAnd x 2147483647 = x % 2147483648 := by
  obtain ⟨n, rfl⟩ := Int.eq_ofNat_of_zero_le h0
  unfold lAnd
  show (Int64.ofInt (n : Int) &&& Int64.ofInt 2147483647).toBitVec.toInt = _
  have hn : n < 4611686018427387904 := by omega
  have e1 : (Int64.ofInt (n : Int)).toBitVec = BitVec.ofNat 64 n := by
    rw [Int64.toBitVec_ofInt]
    exact BitVec.ofInt_natCast 64 n
  have e2 : (Int64.ofInt 2147483647).toBitVec = BitVec.ofNat 64 (2 ^ 31 - 1) := by decide +kernel
  have e3 : (BitVec.ofNat 64 n &&& BitVec.ofNat 64 (2 ^ 31 - 1)) = BitVec.ofNat 64 (n % 2147483648) := by
    apply BitVec.eq_of_toNat_eq
    rw [BitVec.toNat_and, BitVec.toNat_ofNat, BitVec.toNat_ofNat, BitVec.toNat_ofNat, Nat.mod_eq_of_lt (by omega), Nat.mod_eq_of_lt (show 2 ^ 31 - 1 < 2 ^ 64 by decide), Nat.and_two_pow_sub_one_eq_mod, Nat.mod_eq_of_lt (show n % 2147483648 < 2 ^ 64 by omega)]
  rw [Int64.toBitVec_and, e1, e2, e3, BitVec.toInt_eq_toNat_cond, BitVec.toNat_ofNat, Nat.mod_eq_of_lt (by omega), if_pos (by omega)]
  omega
theorem lDiv_w {a b : Int} (ha : -4000000000000000000 ≤ a ∧ a ≤ 4000000000000000000) (hb : -4000000000000000000 ≤ b ∧ b ≤ 4000000000000000000) : lDiv a b = Int.tdiv a b := by
  unfold lDiv
  rw [Int64.toInt_div, t64 ⟨by omega, by omega⟩, t64 ⟨by omega, by omega⟩, bm64]
  have h1 : (Int.tdiv a b).natAbs ≤ a.natAbs := Int.natAbs_tdiv_le_natAbs a b
  exact w64_i (by omega) (by omega)
theorem lRem_w {a b : Int} (ha : -4000000000000000000 ≤ a ∧ a ≤ 4000000000000000000) (hb : -4000000000000000000 ≤ b ∧ b ≤ 4000000000000000000) : lRem a b = Int.tmod a b := by
  unfold lRem
  have e := lDiv_w ha hb
  unfold lDiv at e
  rw [Int64.toInt_sub, Int64.toInt_mul, e, t64 ⟨by omega, by omega⟩, t64 ⟨by omega, by omega⟩, bm64, bm64]
  have h2 : (Int.tmod a b).natAbs ≤ a.natAbs := by rw [Int.natAbs_tmod]; exact Nat.mod_le _ _
  have h3 := tm_eq a b
  rw [w64_i (z := Int.tdiv a b * b) (by omega) (by omega), h3]
  exact w64_i (by omega) (by omega)
def chF (T : Tab) (to : Int) : Nat → (Nat → Int) → Int → List Int → Int × (Nat → Int) × Int × List Int
  | 0, w, z, K => (0, w, z, K)
  | n + 1, w, z, K =>
    if (nxd z / 64) % 100 < to ∧ 0 < tG T then
      (1 + (chF T to n (mnt T (upW w (11 + 2 * ((nxd (nxd z) / 64) % (tG T : Int)).toNat) (cut (w (11 + 2 * ((nxd (nxd z) / 64) % (tG T : Int)).toNat) + 9)))).1 (nxd (nxd z)) (kads K (w 0) (mnt T (upW w (11 + 2 * ((nxd (nxd z) / 64) % (tG T : Int)).toNat) (cut (w (11 + 2 * ((nxd (nxd z) / 64) % (tG T : Int)).toNat) + 9)))).2)).1, (chF T to n (mnt T (upW w (11 + 2 * ((nxd (nxd z) / 64) % (tG T : Int)).toNat) (cut (w (11 + 2 * ((nxd (nxd z) / 64) % (tG T : Int)).toNat) + 9)))).1 (nxd (nxd z)) (kads K (w 0) (mnt T (upW w (11 + 2 * ((nxd (nxd z) / 64) % (tG T : Int)).toNat) (cut (w (11 + 2 * ((nxd (nxd z) / 64) % (tG T : Int)).toNat) + 9)))).2)).2)
    else chF T to n (mnt T w).1 (nxd z) (kads K (w 0) (mnt T w).2)
/-- one minute by the seed: the ring as it begins, the seed then, the toast -/
def tst (T : Tab) (to : Int) (w : Nat → Int) (z : Int) : Int × (Nat → Int) × Int := if (nxd z / 64) % 100 < to ∧ 0 < tG T then (1, upW w (11 + 2 * ((nxd (nxd z) / 64) % (tG T : Int)).toNat) (cut (w (11 + 2 * ((nxd (nxd z) / 64) % (tG T : Int)).toNat) + 9)), nxd (nxd z)) else (0, w, nxd z)
theorem chF_s (T : Tab) (to : Int) (n : Nat) (w : Nat → Int) (z : Int) (K : List Int) : chF T to (n + 1) w z K = ((tst T to w z).1 + (chF T to n (mnt T (tst T to w z).2.1).1 (tst T to w z).2.2 (kads K (w 0) (mnt T (tst T to w z).2.1).2)).1, (chF T to n (mnt T (tst T to w z).2.1).1 (tst T to w z).2.2 (kads K (w 0) (mnt T (tst T to w z).2.1).2)).2) := by
  show (if _ then _ else _) = _
  unfold tst
  by_cases h : (nxd z / 64) % 100 < to ∧ 0 < tG T
  · rw [if_pos h, if_pos h]
  · rw [if_neg h, if_neg h, Int.zero_add]
theorem tst_w {T : Tab} {to : Int} {w : Nat → Int} {z : Int} (hw : Wf T w) : Wf T (tst T to w z).2.1 ∧ (tst T to w z).2.1 0 = w 0 ∧ Sw T w (tst T to w z).2.1 ∧ 0 ≤ (tst T to w z).2.2 ∧ (tst T to w z).2.2 < 2147483648 ∧ 0 ≤ (tst T to w z).1 ∧ (tst T to w z).1 ≤ 1 := by
  unfold tst
  split
  · have := nxd_r (nxd z)
    exact ⟨hw.upd (cut_r _), upW_o (by omega), Sw.upd _ _, this.1, this.2, by simp only []; omega, by simp only []; omega⟩
  · have := nxd_r z
    exact ⟨hw, rfl, Sw.rf, this.1, this.2, by simp only []; omega, by simp only []; omega⟩
section CHANCE
variable {T : Tab} {w : Nat → Int} {K : List Int} {nx : Nat} {U : UL} {to : Int}
theorem d64 {z : Int} (hz : 0 ≤ z ∧ z < 2147483648) : lDiv z 64 = z / 64 := by
  rw [lDiv_n ⟨by omega, by omega⟩ ⟨by omega, by omega⟩, Int.tdiv_eq_ediv_of_nonneg hz.1]
theorem dm {z m : Int} (hz : 0 ≤ z ∧ z < 2147483648) (hm : 0 < m ∧ m ≤ 100) : w32 (lRem (lDiv z 64) m) = (z / 64) % m ∧ 0 ≤ (z / 64) % m ∧ (z / 64) % m < m := by
  have h1 := Int.emod_nonneg (z / 64) (show m ≠ 0 by omega)
  have h2 := Int.emod_lt_of_pos (z / 64) hm.1
  refine ⟨?_, h1, h2⟩
  rw [d64 hz, lRem_n ⟨by omega, by omega⟩ ⟨by omega, by omega⟩, Int.tmod_eq_emod_of_nonneg (by omega), w32_i (by omega) (by omega)]
theorem x_draw (D : Nat) {s : Mem} {z m : Int} (h : rI s 0 15 = z) (hz : 0 ≤ z ∧ z < 2147483648) (hm : 0 < m ∧ m ≤ 100) : f_X_draw (D + 1) m s = some ((nxd z / 64) % m, wI s 0 15 (nxd z)) := by
  have h1 : lAnd (w64 ((w64 (1103515245 * z)) + 12345)) 2147483647 = nxd z := by
    rw [w64_i (z := 1103515245 * z) (by omega) (by omega), w64_i (by omega) (by omega), lAnd_31 (by omega) (by omega)]
    rfl
  rw [e_X_draw, if_pos hm.1, if_neg (by omega), h, h1, (dm (nxd_r z) hm).1]
theorem m_draw (D : Nat) {s : Mem} {z m : Int} (h : rI s 84 72 = z) (hz : 0 ≤ z ∧ z < 2147483648) (hm : 0 < m ∧ m ≤ 100) : f_M_drawOf (D + 1) m s = some ((nxd z / 64) % m, wI s 84 72 (nxd z)) := by
  have h1 : lRem (w64 ((w64 (1103515245 * z)) + 12345)) 2147483648 = nxd z := by
    rw [w64_i (z := 1103515245 * z) (by omega) (by omega), w64_i (by omega) (by omega), lRem_w ⟨by omega, by omega⟩ ⟨by omega, by omega⟩, Int.tmod_eq_emod_of_nonneg (show 0 ≤ 1103515245 * z + 12345 by omega)]
    rfl
  rw [e_M_drawOf, h, h1, e_M_drawOf_20, if_neg (by omega), rI_same, (dm (nxd_r z) hm).1]
abbrev PTo : Nat → Nat → Prop := fun a k => a = 0 ∧ k = 15 ∨ a = 30
theorem x_toast (D : Nat) {s : Mem} {z : Int} (hx : XM s T w) (ht : Tf T) (hw : Wf T w) (h5 : rI s (rQ s 0 2) 5 = to) (h15 : rI s 0 15 = z) (hz : 0 ≤ z ∧ z < 2147483648) : ∃ s1, f_X_drawToast (D + 3) s = some ((tst T to w z).1, s1) ∧ Fr PTo s s1 ∧ XM s1 T (tst T to w z).2.1 ∧ rI s1 0 15 = (tst T to w z).2.2 := by
  have hg := ht.2.2.1
  have eg := hx.1.g
  have hT6 := hx.1.2.1.1
  rw [hx.2] at eg hT6
  have f1 : Fr (fun a k => a = 0 ∧ k = 15) s (wI s 0 15 (nxd z)) := Fr.rf.w ⟨rfl, rfl⟩
  have xf : ∀ {s s' : Mem}, XM s T w → Fr (fun a k => a = 0 ∧ k = 15) s s' → XM s' T w := fun {s s'} h hf => by
    obtain ⟨⟨g1, g2, g3, g4, g5, g6, g7, g8⟩, hq⟩ := h
    have g21 := g2.1
    have gq : rQ s' 28 0 = rQ s 28 0 := hf.q (by omega)
    obtain ⟨t1, t2, t3, t4, t5, t6, t7⟩ := g2
    refine ⟨⟨g1, ?_, (hf.i (by omega)).trans g3, ?_, fun k hk => (hf.i (by omega)).trans (g5 k hk), fun k hk => (hf.i (by omega)).trans (g6 k hk), fun k hk => (hf.i (by omega)).trans (g7 k hk), fun q hq => (hf.i (by omega)).trans (g8 q hq)⟩, by rw [gq, hf.q (by omega)]; exact hq⟩
    · rw [gq]
      exact ⟨t1, (hf.i (by omega)).trans t2, (hf.i (by omega)).trans t3, fun k hk => (hf.i (by omega)).trans (t4 k hk), t5.fr hf (fun k => ⟨by omega, by omega⟩), t6.fr hf (fun k => ⟨by omega, by omega⟩), t7.fr hf (fun k => ⟨by omega, by omega⟩)⟩
    · rw [hf.i (by omega)]; exact g4
  rw [e_X_drawToast, x_draw (D + 1) h15 hz (by omega), Option.bind_some]
  simp only []
  rw [rQ_wI, rI_other _ _ _ _ (by omega), rI_other _ _ _ _ (by omega), h5, eg]
  unfold tst
  by_cases h1 : (nxd z / 64) % 100 < to
  · rw [if_pos h1]
    by_cases h2 : 0 < tG T
    · have hd := dm (nxd_r (nxd z)) (m := (tG T : Int)) (by omega)
      have f2 : Fr (fun a k => a = 0 ∧ k = 15) s (wI (wI s 0 15 (nxd z)) 0 15 (nxd (nxd z))) := f1.w ⟨rfl, rfl⟩
      have x2 := xf hx f2
      rw [if_neg (by omega), if_pos ⟨h1, h2⟩, x_draw (D + 1) (rI_same _ _ _ _) (nxd_r z) (by omega), Option.bind_some]
      simp only []
      rw [x_isG (D + 1) x2 ht, Option.bind_some]
      simp only []
      obtain ⟨k, hk⟩ := Int.eq_ofNat_of_zero_le hd.2.1
      rw [hk] at hd ⊢
      have hk2 : k < tG T := by omega
      have hv := (hw.2.2.1 k hk2).2
      rw [if_pos (⟨hd.2.1, hd.2.2⟩ : 0 ≤ (k : Int) ∧ (k : Int) < tG T), if_neg (show ¬ ((1 : Int) = 0) by decide), inB_n (by omega), Int.toNat_natCast, show rI (wI (wI s 0 15 (nxd z)) 0 15 (nxd (nxd z))) 30 k = w (11 + 2 * k) from x2.1.2.2.2.2.2.1 k hk2, x_min, Option.bind_some]
      simp only []
      rw [inB_n (by omega), w32_i (by omega) (by omega)]
      have hcut : (if w (11 + 2 * k) + 9 < 99 then w (11 + 2 * k) + 9 else 99) = cut (w (11 + 2 * k) + 9) := by
        unfold cut
        repeat' split
        all_goals omega
      rw [hcut]
      have f3 : Fr (fun a _ => a = 30) (wI (wI s 0 15 (nxd z)) 0 15 (nxd (nxd z))) (wI (wI (wI s 0 15 (nxd z)) 0 15 (nxd (nxd z))) 30 k (cut (w (11 + 2 * k) + 9))) := Fr.rf.w (P := fun a _ => a = 30) rfl
      refine ⟨_, rfl, (f2.mo (fun a k q => Or.inl q)).tr (f3.mo (fun a k q => Or.inr q)), ⟨x2.1.sw f3 (fun a i q => by omega) (Sw.upd _ _) (fun j hj => ?_), x2.2⟩, ?_⟩
      · by_cases e : j = k
        · rw [e, upW_s]; exact rI_same _ _ _ _
        · rw [rI_other _ _ _ _ (by omega), upW_o (by omega)]; exact x2.1.2.2.2.2.2.1 j hj
      · rw [f3.i (by omega), rI_same]
    · rw [if_pos (by omega), if_neg (fun q => h2 q.2)]
      exact ⟨_, rfl, f1.mo (fun a k q => Or.inl q), xf hx f1, rI_same _ _ _ _⟩
  · rw [if_neg h1, if_neg (fun q => h1 q.1)]
    exact ⟨_, rfl, f1.mo (fun a k q => Or.inl q), xf hx f1, rI_same _ _ _ _⟩
abbrev PCc : Nat → Nat → Prop := fun a k => a = 0 ∧ k = 15 ∨ a = 28 ∧ (k = 1 ∨ k = 3) ∨ a = 30 ∨ a = 33 ∨ a = 34 ∨ a = 42 ∧ k = 1 ∨ a = 43
theorem x_chance26 (D : Nat) (ht : Tf T) : ∀ (n e b : Nat) (c : Int) (w : Nat → Int) (z : Int) (K : List Int) (s : Mem), e + n = b → b ≤ 100 → 0 ≤ c → c ≤ e → XM s T w → Wf T w → w 0 + n ≤ 999 → KX s K → rI s (rQ s 0 2) 5 = to → rI s 0 15 = z → (0 ≤ z ∧ z < 2147483648) → ∃ s1, L_X_chance_26 (D + 5) (b : Int) c (e : Int) s = some (c + (chF T to n w z K).1, s1) ∧ Fr PCc s s1 ∧ XM s1 T (chF T to n w z K).2.1 ∧ KX s1 (chF T to n w z K).2.2.2 ∧ rI s1 0 15 = (chF T to n w z K).2.2.1 ∧ (0 ≤ (chF T to n w z K).2.2.1 ∧ (chF T to n w z K).2.2.1 < 2147483648)
  | 0, e, b, c, w, z, K, s, he, hb, hc, hc2, hx, hw, hn, hK, h5, h15, hz => by
    rw [e_X_chance_26, if_neg (by omega)]
    exact ⟨s, by show some (c, s) = some (c + 0, s); rw [Int.add_zero], Fr.rf, hx, hK, h15, hz⟩
  | n + 1, e, b, c, w, z, K, s, he, hb, hc, hc2, hx, hw, hn, hK, h5, h15, hz => by
    have hT6 := hx.1.2.1.1
    rw [hx.2] at hT6
    obtain ⟨w1, w2, w3, w4, w5, w6, w7⟩ := tst_w (to := to) (z := z) hw
    obtain ⟨s1, e1, f1, x1, z1⟩ := x_toast (D + 2) hx ht hw h5 h15 hz
    obtain ⟨s2, bb, e2, f2, x2, k2, -⟩ := x_passL D x1.1 ht w1 (hK.fr f1 (fun a k q => by unfold PTo at q; omega)) (by rw [w2]; omega)
    rw [w2] at k2
    have f12 : Fr PCc s s2 := (f1.mo (fun a k q => by unfold PTo at q; unfold PCc; omega)).tr (f2.mo (fun a k q => by unfold PTL at q; unfold PCc; omega))
    have q2 : rQ s2 0 2 = rQ s 0 2 := f12.q (by unfold PCc; omega)
    have q28 : rQ s2 28 0 = rQ s1 28 0 := f2.q (by unfold PTL; omega)
    have xm2 : XM s2 T (mnt T (tst T to w z).2.1).1 := ⟨x2, by rw [q28, x1.2, q2, f1.q (by unfold PTo; omega)]⟩
    obtain ⟨s3, e3, f3, x3, k3, z3, z4⟩ := x_chance26 D ht n (e + 1) b (c + (tst T to w z).1) _ _ _ s2 (by omega) hb (by omega) (by omega) xm2 (mnt_w w1 (by rw [w2]; omega)) (by rw [mnt_0 w1, w2]; omega) k2 (by rw [q2, f12.i (by unfold PCc; omega)]; exact h5) ((f2.i (by unfold PTL; omega)).trans z1) ⟨w4, w5⟩
    rw [e_X_chance_26, if_pos (by omega), e1, Option.bind_some]
    simp only []
    rw [e2, Option.bind_some, w32_s (by omega), w32_i (by omega) (by omega)]
    simp only []
    rw [chF_s]
    exact ⟨s3, by rw [e3, Int.add_assoc], f12.tr f3, x3, k3, z3, z4⟩
theorem x_chance (D : Nat) {s : Mem} {z : Int} (hx : XM s T w) (ht : Tf T) (hw : Wf T w) (hK : KX s K) (hU : XU s T nx U) (h5 : rI s (rQ s 0 2) 5 = to) (h15 : rI s 0 15 = z) (hz : 0 ≤ z ∧ z < 2147483648) (a : Int) : (cpc w a 1 100 → ∃ s1, f_X_chance (D + 6) a s = some ((chF T to a.toNat w z K).1, s1) ∧ Fr (fun a k => a = 0 ∧ k = 15 ∨ 28 ≤ a ∧ a ≤ 34 ∧ (a = 28 → 1 ≤ k) ∨ a = 42 ∧ k = 1 ∨ a = 43 ∨ a = 44 ∧ (k = 1 ∨ k = 2) ∨ 46 ≤ a ∧ a ≤ 65 ∨ a = 79) s s1 ∧ XM s1 T (chF T to a.toNat w z K).2.1 ∧ KX s1 (chF T to a.toNat w z K).2.2.2 ∧ XU s1 T ((nx + 1) % 20) (((w, K) :: U).take 20) ∧ rI s1 79 1 = 0 ∧ rI s1 79 2 = 0 ∧ rI s1 0 15 = (chF T to a.toNat w z K).2.2.1 ∧ (0 ≤ (chF T to a.toNat w z K).2.2.1 ∧ (chF T to a.toNat w z K).2.2.1 < 2147483648)) ∧ (¬ cpc w a 1 100 → f_X_chance (D + 6) a s = some (-1, wI s 83 3 (w32 (rI s 83 3 + 1)))) := by
  have href : f_X_refuse (D + 5) 3 s = some (0, wI s 83 3 (w32 (rI s 83 3 + 1))) := x_ref (D + 4) s (k := 3) (by omega)
  rw [e_X_chance, x_can (D + 3) hx ht hw a (by omega) (by omega), Option.bind_some]
  simp only []
  by_cases hc : cpc w a 1 100
  · obtain ⟨n, rfl⟩ := Int.eq_ofNat_of_zero_le (show 0 ≤ a by have := hc.1; omega)
    have hc2 := hc.2
    have hT6 := hx.1.2.1.1
    rw [hx.2] at hT6
    obtain ⟨s1, e1, f1, x1, k1, u1, p1, p2⟩ := x_begin (D + 2) hx ht hK hU
    have q1 : rQ s1 0 2 = rQ s 0 2 := f1.q (by omega)
    obtain ⟨s2, e2, f2, x2, k2, z2, z3⟩ := x_chance26 D (to := to) ht n 0 n 0 w z K s1 (by omega) (by omega) (by omega) (by omega) x1 hw (by omega) k1 (by rw [q1, f1.i (by omega)]; exact h5) ((f1.i (by omega)).trans h15) hz
    rw [if_pos hc, if_neg (by omega), e1, Option.bind_some, Int.toNat_natCast]
    simp only []
    rw [Int.zero_add] at e2
    exact ⟨fun _ => ⟨s2, e2, (f1.mo (fun a i q => by omega)).tr (f2.mo (fun a i q => by unfold PCc at q; omega)), x2, k2, u1.fr f2 (fun a i q => by unfold PCc at q; omega), (f2.i (by unfold PCc; omega)).trans p1, (f2.i (by unfold PCc; omega)).trans p2, z2, z3⟩, fun h => absurd hc h⟩
  · rw [if_neg hc, if_pos rfl, href, Option.bind_some]
    exact ⟨fun h => absurd h hc, fun _ => rfl⟩
abbrev PMc : Nat → Nat → Prop := fun a i => a = 84 ∧ (i = 50 ∨ i = 55 ∨ i = 56 ∨ i = 58 ∨ i = 59 ∨ i = 72 ∨ i = 105) ∨ a = 122 ∨ a = 124 ∨ a = 157
theorem PMm_c : ∀ a i, PMm false a i → PMc a i := fun a i q => by
  rcases q with q | q | q | q
  · unfold PMc; omega
  · unfold PMc; omega
  · unfold PMc; omega
  · unfold PMc; omega
theorem m_chance25 (D : Nat) (ht : Tf T) : ∀ (n e b : Nat) (c : Int) (w : Nat → Int) (z : Int) (K : List Int) (s : Mem), e + n = b → b ≤ 100 → 0 ≤ c → c ≤ e → MT s T → MW s w → rI s 84 57 = 0 → Wf T w → w 0 + n ≤ 999 → MK s K → bsOk s → rI s 114 5 = to → rI s 84 72 = z → (0 ≤ z ∧ z < 2147483648) → ∃ s1, L_M_chance_25 (D + 10) (b : Int) c (e : Int) s = some (c + (chF T to n w z K).1, s1) ∧ Fr PMc s s1 ∧ MT s1 T ∧ MW s1 (chF T to n w z K).2.1 ∧ MK s1 (chF T to n w z K).2.2.2 ∧ bsOk s1 ∧ rI s1 84 57 = 0 ∧ rI s1 84 72 = (chF T to n w z K).2.2.1
  | 0, e, b, c, w, z, K, s, he, hb, hc, hc2, hm, hws, h57, hw, hn, hK, hbs, h5, h72, hz => by
    rw [e_M_chance_25, if_neg (by omega)]
    exact ⟨s, by show some (c, s) = some (c + 0, s); rw [Int.add_zero], Fr.rf, hm, hws, hK, hbs, h57, h72⟩
  | n + 1, e, b, c, w, z, K, s, he, hb, hc, hc2, hm, hws, h57, hw, hn, hK, hbs, h5, h72, hz => by
    have hg := ht.2.2.1
    obtain ⟨w1, w2, w3, w4, w5, w6, w7⟩ := tst_w (to := to) (z := z) hw
    -- the draw and the toast
    have head : ∃ s1, L_M_chance_25 (D + 10) (b : Int) c (e : Int) s = ((f_M_minuteGoes (D + 10) s1).bind fun p => L_M_chance_25 (D + 10) (b : Int) (c + (tst T to w z).1) ((e + 1 : Nat) : Int) p.2) ∧ Fr (fun a i => a = 84 ∧ i = 72 ∨ a = 122 ∧ i < 24) s s1 ∧ MW s1 (tst T to w z).2.1 ∧ rI s1 84 72 = (tst T to w z).2.2 := by
      have f1 : Fr (fun a i => a = 84 ∧ i = 72 ∨ a = 122 ∧ i < 24) s (wI s 84 72 (nxd z)) := Fr.rf.w (by omega)
      rw [e_M_chance_25, if_pos (by omega), m_draw (D + 9) h72 hz (by omega), Option.bind_some, w32_s (by omega), w32_i (z := c + 1) (by omega) (by omega)]
      simp only []
      rw [rI_other _ _ _ _ (by omega), h5]
      have m1 : MT (wI s 84 72 (nxd z)) T := hm.fr f1 (fun a i q => by omega)
      have ww1 : MW (wI s 84 72 (nxd z)) w := hws.fr (P := fun a i => a = 84 ∧ i = 72) (Fr.rf.w ⟨rfl, rfl⟩) (fun a i q => by omega)
      unfold tst
      by_cases h1 : (nxd z / 64) % 100 < to
      · rw [if_pos h1, m_g (D + 9) m1, Option.bind_some]
        simp only []
        by_cases h2 : 0 < tG T
        · have hd := dm (nxd_r (nxd z)) (m := (tG T : Int)) (by omega)
          have f2 : Fr (fun a i => a = 84 ∧ i = 72 ∨ a = 122 ∧ i < 24) s (wI (wI s 84 72 (nxd z)) 84 72 (nxd (nxd z))) := f1.w (by omega)
          have ww2 : MW (wI (wI s 84 72 (nxd z)) 84 72 (nxd (nxd z))) w := ww1.fr (P := fun a i => a = 84 ∧ i = 72) (Fr.rf.w ⟨rfl, rfl⟩) (fun a i q => by omega)
          rw [if_pos (by omega), m_g (D + 9) m1, Option.bind_some, if_pos ⟨h1, h2⟩]
          simp only []
          rw [m_draw (D + 9) (rI_same _ _ _ _) (nxd_r z) (by omega), Option.bind_some]
          simp only []
          obtain ⟨k, hk⟩ := Int.eq_ofNat_of_zero_le hd.2.1
          rw [hk] at hd ⊢
          have hk2 : k < tG T := by omega
          have hv := (hw.2.2.1 k hk2).2
          rw [w32_11 (by omega), inB_n (by omega), Int.toNat_natCast, ww2 _ (by omega), w32_i (z := w (11 + 2 * k) + 9) (by omega) (by omega), m_cut (D + 9) _ (by omega), Option.bind_some]
          simp only []
          rw [inB_n (by omega), Int.toNat_natCast]
          exact ⟨_, rfl, f2.w (by omega), ww2.lo _ _, by rw [rI_other _ _ _ _ (by omega), rI_same]⟩
        · rw [if_neg (by omega), if_neg (fun q => h2 q.2)]
          exact ⟨_, by rw [Int.add_zero], f1, ww1, rI_same _ _ _ _⟩
      · rw [if_neg h1, if_neg (fun q => h1 q.1)]
        exact ⟨_, by rw [Int.add_zero], f1, ww1, rI_same _ _ _ _⟩
    obtain ⟨s1, e1, f1, ww1, z1⟩ := head
    obtain ⟨bs, b1, b2⟩ := hbs.fr f1 (by omega)
    obtain ⟨s2, bs2, e2, f2, ww2, k2, -, b3, b4, -⟩ := m_minute D (th := false) (K := K) (hm.fr f1 (fun a i q => by omega)) ww1 w1 ht (Or.inr ⟨rfl, (f1.i (by omega)).trans h57, hK.fr f1 (fun a i q => by omega)⟩) b1 b2
    rw [w2] at k2
    rcases k2 with ⟨q, -⟩ | ⟨-, g57, gK⟩
    · cases q
    · have f2c := f2.mo PMm_c
      obtain ⟨s3, e3, f3, m3, ww3, k3, bs3, g57b, z3⟩ := m_chance25 D ht n (e + 1) b (c + (tst T to w z).1) _ _ _ s2 (by omega) hb (by omega) (by omega) ((hm.fr f1 (fun a i q => by omega)).fr f2 PMm_T) ww2 g57 (mnt_w w1 (by rw [w2]; omega)) (by rw [mnt_0 w1, w2]; omega) gK ⟨bs2, b3, b4⟩ (by rw [f2c.i (by unfold PMc; omega), f1.i (by omega)]; exact h5) (by rw [f2.i (fun q => by rcases q with q | q | q | q <;> omega)]; exact z1) ⟨w4, w5⟩
      rw [e1, e2, Option.bind_some]
      simp only []
      rw [chF_s]
      exact ⟨s3, by rw [e3, Int.add_assoc]; rfl, ((f1.mo (fun a i q => by unfold PMc; omega)).tr f2c).tr f3, m3, ww3, k3, bs3, g57b, z3⟩
theorem m_chance (D : Nat) {s : Mem} {z : Int} (hm : MM s T w) (ht : Tf T) (hw : Wf T w) (hK : MK s K) (hU : MU s nx U) (hbs : bsOk s) (h5 : rI s 114 5 = to) (h72 : rI s 84 72 = z) (hz : 0 ≤ z ∧ z < 2147483648) (a : Int) : (cpc w a 1 100 → ∃ s1, f_M_chance (D + 11) a s = some ((chF T to a.toNat w z K).1, s1) ∧ Fr (fun a i => PMa a i ∨ a = 84 ∧ i = 72) s s1 ∧ MM s1 T (chF T to a.toNat w z K).2.1 ∧ MK s1 (chF T to a.toNat w z K).2.2.2 ∧ MU s1 ((nx + 1) % 20) (((w, K) :: U).take 20) ∧ bsOk s1 ∧ rI s1 84 72 = (chF T to a.toNat w z K).2.2.1) ∧ (¬ cpc w a 1 100 → f_M_chance (D + 11) a s = some (-1, wI s 86 3 (w32 (rI s 86 3 + 1)))) := by
  have href : f_M_refuses (D + 10) 3 s = some (-1, wI s 86 3 (w32 (rI s 86 3 + 1))) := m_refs (D + 9) s (k := 3) (by omega)
  rw [e_M_chance, m_can (D + 8) hm hw a (by omega) (by omega), Option.bind_some]
  simp only []
  by_cases hc : cpc w a 1 100
  · obtain ⟨n, rfl⟩ := Int.eq_ofNat_of_zero_le (show 0 ≤ a by have := hc.1; omega)
    have hc2 := hc.2
    obtain ⟨s1, e1, f1, u1⟩ := m_keeps (D + 9) (w := w) (K := K) hm.2.1 hK hU
    obtain ⟨h1, h2, h3, h4, h5b⟩ := hm.fr f1 (fun a j q => by unfold PKe at q; omega) (fun a j q => by unfold PKe at q; omega)
    obtain ⟨s2, e2, f2, m2, ww2, k2, bs2, g57, z2⟩ := m_chance25 D (to := to) ht n 0 n 0 w z K s1 (by omega) (by omega) (by omega) (by omega) h1 h2 h5b hw (by omega) (hK.fr f1 (fun a j q => by unfold PKe at q; omega)) (hbs.fr f1 (by unfold PKe; omega)) ((f1.i (by unfold PKe; omega)).trans h5) ((f1.i (by unfold PKe; omega)).trans h72) hz
    rw [Int.zero_add] at e2
    rw [if_pos hc, if_neg (by omega), e1, Option.bind_some, Int.toNat_natCast]
    simp only []
    exact ⟨fun _ => ⟨s2, e2, (f1.mo (fun a j q => by unfold PKe at q; unfold PMa; omega)).tr (f2.mo (fun a j q => by unfold PMc at q; unfold PMa; omega)), ⟨m2, ww2, (f2.i (by unfold PMc; omega)).trans h3, (f2.i (by unfold PMc; omega)).trans h4, g57⟩, k2, u1.fr f2 (fun a j q => by unfold PMc at q; omega), bs2, z2⟩, fun h => absurd hc h⟩
  · rw [if_neg hc, if_pos rfl, href, Option.bind_some]
    exact ⟨fun h => absurd h hc, fun _ => rfl⟩
end CHANCE
