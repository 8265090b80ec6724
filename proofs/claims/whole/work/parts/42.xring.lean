/-! the class's ring: its cells, its numbers -/
def xpt (p : Int) : Int := if p = 0 then 3 else if p = 1 then 4 else p + 8
def enX (c : Int) : Int := if 1000 ≤ c then c - 1000 else if 60 ≤ c then c + 9959 else if 40 ≤ c then 10000 + xpt (c - 40) else if c = 13 then 1 else if c = 12 then 10023 else if c = 10 then 10022 else if c = 11 then 10021 else if c = 1 then 10043 else if c = 2 then 10045 else if c = 3 then 10042 else if c = 4 then 10047 else if c = 5 then 10025 else if c = 6 then 10026 else if c = 7 then 10060 else if c = 8 then 10062 else 10061
/-- a code of the class at o -/
def XC (s : Mem) (o : Nat) (cs : List Int) : Prop := rI s o 1 = (cs.length : Int) ∧ cs.length ≤ 1600 ∧ ∀ i, i < cs.length → rI s (o + 1) i = enX (cs.getD i 0)
/-- a table of the class at t -/
def XT (s : Mem) (t : Nat) (T : Tab) : Prop := (t = 6 ∨ t = 17) ∧ rI s t 1 = (tN T : Int) ∧ rI s t 2 = (tG T : Int) ∧ (∀ k, k < tG T → rI s (t + 4) k = tH T k) ∧ XC s (t + 5) (tC T 0) ∧ XC s (t + 7) (tC T 1) ∧ XC s (t + 9) (tC T 2)
/-- hoops as bits -/
def HB (h : Int) (w : Nat → Int) : Prop := ∃ a : Nat, h = (a : Int) ∧ a < 512 ∧ ∀ q, q < 9 → ((a / 2 ^ q % 2 : Nat) : Int) = w (1 + q)
/-- a ring of the class at o -/
def XR (s : Mem) (o : Nat) (T : Tab) (w : Nat → Int) : Prop := (o = 28 ∨ o = 35) ∧ XT s (rQ s o 0) T ∧ rI s o 1 = w 0 ∧ HB (rI s o 2) w ∧ (∀ k, k < tG T → rI s (o + 1) k = w (10 + 2 * k)) ∧ (∀ k, k < tG T → rI s (o + 2) k = w (11 + 2 * k)) ∧ (∀ k, k < tG T → rI s (o + 3) k = tW T k) ∧ ∀ q, q < 9 → rI s (o + 4) q = who w (tG T) (q : Int)
/-- what a table may be -/
def Tf (T : Tab) : Prop := 3 ≤ tN T ∧ tN T ≤ 9 ∧ tG T ≤ 7 ∧ (∀ k, k < tG T → (0 ≤ tW T k ∧ tW T k ≤ 9) ∧ 0 ≤ tH T k ∧ tH T k ≤ 9) ∧ Cok 0 (tC T 0) false ∧ Cok 1 (tC T 1) true ∧ Cok 2 (tC T 2) false
/-- what a ring may be -/
def Wf (T : Tab) (w : Nat → Int) : Prop := (0 ≤ w 0 ∧ w 0 ≤ 1100) ∧ (∀ q, q < 9 → w (1 + q) = 0 ∨ w (1 + q) = 1) ∧ (∀ k, k < tG T → (0 ≤ w (10 + 2 * k) ∧ w (10 + 2 * k) < (tN T : Int)) ∧ 0 ≤ w (11 + 2 * k) ∧ w (11 + 2 * k) ≤ 99) ∧ ∀ j k, j < tG T → k < tG T → w (10 + 2 * j) = w (10 + 2 * k) → j = k
theorem whoF_or (w : Nat → Int) (q : Int) : ∀ j k : Nat, (whoF w q j k = -1 ∧ ∀ i, k ≤ i → i < k + j → w (10 + 2 * i) ≠ q) ∨ ∃ i, k ≤ i ∧ i < k + j ∧ whoF w q j k = (i : Int) ∧ w (10 + 2 * i) = q
  | 0, k => Or.inl ⟨rfl, fun i h1 h2 => by omega⟩
  | j + 1, k => by
    unfold whoF
    by_cases e : w (10 + 2 * k) = q
    · rw [if_pos e]
      exact Or.inr ⟨k, Nat.le_refl _, by omega, rfl, e⟩
    · rw [if_neg e]
      rcases whoF_or w q j (k + 1) with ⟨h1, h2⟩ | ⟨i, h1, h2, h3, h4⟩
      · refine Or.inl ⟨h1, fun i g1 g2 => ?_⟩
        rcases Nat.eq_or_lt_of_le g1 with rfl | g1
        · exact e
        · exact h2 i g1 (by omega)
      · exact Or.inr ⟨i, by omega, by omega, h3, h4⟩
theorem who_or (w : Nat → Int) (g : Nat) (q : Int) : (who w g q = -1 ∧ ∀ i, i < g → w (10 + 2 * i) ≠ q) ∨ ∃ i, i < g ∧ who w g q = (i : Int) ∧ w (10 + 2 * i) = q := by
  rcases whoF_or w q g 0 with ⟨h1, h2⟩ | ⟨i, _, h2, h3, h4⟩
  · exact Or.inl ⟨h1, fun i hi => h2 i (Nat.zero_le _) (by omega)⟩
  · exact Or.inr ⟨i, by omega, h3, h4⟩
theorem who_at {T : Tab} {w : Nat → Int} (hw : Wf T w) {k : Nat} (hk : k < tG T) {q : Int} (h : w (10 + 2 * k) = q) : who w (tG T) q = (k : Int) := by
  rcases who_or w (tG T) q with ⟨_, h2⟩ | ⟨i, h2, h3, h4⟩
  · exact absurd h (h2 k hk)
  · rw [h3, hw.2.2.2 i k h2 hk (h4.trans h.symm)]
theorem trn_r {n : Nat} {q : Int} (h1 : -(n : Int) ≤ q) (h2 : q < 2 * (n : Int)) : 0 ≤ trn n q ∧ trn n q < (n : Int) := by
  unfold trn
  split
  · omega
  · split <;> omega
section XRING
variable {s : Mem} {o : Nat} {T : Tab} {w : Nat → Int}
theorem XR.n (h : XR s o T w) : rI s (rQ s o 0) 1 = (tN T : Int) := h.2.1.2.1
theorem XR.g (h : XR s o T w) : rI s (rQ s o 0) 2 = (tG T : Int) := h.2.1.2.2.1
theorem x_sw61 (D : Nat) (hx : XR s o T w) (ht : Tf T) (q : Int) : L_Rg_swellIn_61 D o (who w (tG T) q) s = some (if who w (tG T) q = -1 then 0 else w (11 + 2 * (who w (tG T) q).toNat), s) := by
  rw [e_Rg_swellIn_61]
  rcases who_or w (tG T) q with ⟨h1, _⟩ | ⟨i, h2, h3, _⟩
  · rw [h1, if_pos (by omega), if_pos rfl]
  · have hg := ht.2.2.1
    rw [h3, if_neg (by omega), if_pos (by omega), inB_n (by omega), if_neg (by omega)]
    simp only [Int.toNat_natCast]
    rw [hx.2.2.2.2.2.1 i h2]
theorem x_sw40 (D : Nat) (hx : XR s o T w) (ht : Tf T) {q : Int} (h0 : 0 ≤ q) (h1 : q < 9) : L_Rg_swellIn_40 D o q s = some (if who w (tG T) q = -1 then 0 else w (11 + 2 * (who w (tG T) q).toNat), s) := by
  obtain ⟨k, rfl⟩ := Int.eq_ofNat_of_zero_le h0
  rw [e_Rg_swellIn_40, if_neg (by omega), if_pos h1, inB_n (by omega)]
  simp only [Int.toNat_natCast]
  rw [hx.2.2.2.2.2.2.2 k (by omega)]
  exact x_sw61 D hx ht k
theorem x_swellIn (D : Nat) (hx : XR s o T w) (ht : Tf T) {q : Int} (h1 : -(tN T : Int) ≤ q) (h2 : q < 2 * (tN T : Int)) : f_Rg_swellIn (D + 1) o q s = some (swA T w q, s) := by
  have hr := trn_r h1 h2
  have hn := ht.2.1
  have key : f_Rg_swellIn (D + 1) o q s = L_Rg_swellIn_40 D o (trn (tN T) q) s := by
    rw [e_Rg_swellIn, hx.n]
    unfold trn
    split
    · rw [w32_i (by omega) (by omega)]
    · split
      · rfl
      · rw [w32_i (by omega) (by omega)]
  rw [key, x_sw40 D hx ht hr.1 (by omega)]
  rfl
def sumF (f : Nat → Int) : Nat → Nat → Int
  | 0, _ => 0
  | j + 1, k => f k + sumF f j (k + 1)
theorem sumF_c {f f' : Nat → Int} : ∀ {j k : Nat}, (∀ i, k ≤ i → i < k + j → f i = f' i) → sumF f j k = sumF f' j k
  | 0, _, _ => rfl
  | j + 1, k, h => by
    unfold sumF
    rw [h k (Nat.le_refl _) (by omega), sumF_c (fun i h1 h2 => h i (by omega) (by omega))]
theorem sumF_0 {f : Nat → Int} : ∀ {j k : Nat}, (∀ i, k ≤ i → i < k + j → f i = 0) → sumF f j k = 0
  | 0, _, _ => rfl
  | j + 1, k, h => by
    unfold sumF
    rw [h k (Nat.le_refl _) (by omega), sumF_0 (fun i h1 h2 => h i (by omega) (by omega))]
    rfl
theorem sumF_1 {f : Nat → Int} {i : Nat} : ∀ {j k : Nat}, k ≤ i → i < k + j → (∀ a, k ≤ a → a < k + j → a ≠ i → f a = 0) → sumF f j k = f i
  | 0, _, h1, h2, _ => by omega
  | j + 1, k, h1, h2, h => by
    unfold sumF
    rcases Nat.eq_or_lt_of_le h1 with rfl | h1
    · rw [sumF_0 (fun a g1 g2 => h a (by omega) (by omega) (by omega))]
      omega
    · rw [h k (Nat.le_refl _) (by omega) (by omega), sumF_1 (i := i) h1 (by omega) (fun a g1 g2 g3 => h a (by omega) (by omega) g3)]
      omega
theorem sumF_a {f f' : Nat → Int} : ∀ {j k : Nat}, sumF (fun i => f i + f' i) j k = sumF f j k + sumF f' j k
  | 0, _ => rfl
  | j + 1, k => by
    unfold sumF
    rw [sumF_a]
    omega
theorem sumF_r {f : Nat → Int} {b : Int} : ∀ {j k : Nat}, (∀ i, k ≤ i → i < k + j → 0 ≤ f i ∧ f i ≤ b) → 0 ≤ sumF f j k ∧ sumF f j k ≤ j * b
  | 0, _, _ => by unfold sumF; omega
  | j + 1, k, h => by
    unfold sumF
    have h1 := h k (Nat.le_refl _) (by omega)
    have h2 := sumF_r (fun i g1 g2 => h i (Nat.le_of_succ_le g1) (by omega)) (j := j) (k := k + 1) (b := b)
    have e : ((j + 1 : Nat) : Int) * b = j * b + b := by rw [Int.natCast_succ, Int.add_mul, Int.one_mul]
    omega
theorem swA_sum (hw : Wf T w) (q : Int) : swA T w q = sumF (fun i => if w (10 + 2 * i) = trn (tN T) q then w (11 + 2 * i) else 0) (tG T) 0 := by
  unfold swA
  rcases who_or w (tG T) (trn (tN T) q) with ⟨h1, h2⟩ | ⟨i, h2, h3, h4⟩
  · rw [if_pos h1, sumF_0]
    intro i _ hi
    exact if_neg (h2 i (by omega))
  · rw [h3, if_neg (by omega), Int.toNat_natCast, sumF_1 (i := i) (Nat.zero_le _) (by omega)]
    · exact (if_pos h4).symm
    · intro a _ ha hne
      exact if_neg (fun e => hne (hw.2.2.2 a i (by omega) h2 (e.trans h4.symm)))
/-- the class's way to a load -/
def ldc (T : Tab) (w : Nat → Int) (q : Int) (i : Nat) : Int := if (if q < w (10 + 2 * i) then w (10 + 2 * i) - q else q - w (10 + 2 * i)) ≤ 1 ∨ (if q < w (10 + 2 * i) then w (10 + 2 * i) - q else q - w (10 + 2 * i)) = (tN T : Int) - 1 then w (11 + 2 * i) else 0
theorem lod_sum (ht : Tf T) (hw : Wf T w) {q : Int} (h0 : 0 ≤ q) (h1 : q < (tN T : Int)) : lod T w q = sumF (ldc T w q) (tG T) 0 := by
  unfold lod
  rw [swA_sum hw, swA_sum hw, swA_sum hw, ← sumF_a, ← sumF_a]
  apply sumF_c
  intro i _ hi
  have hs := (hw.2.2.1 i (by omega)).1
  have hn := ht.1
  unfold ldc trn
  generalize w (10 + 2 * i) = a at hs ⊢
  generalize w (11 + 2 * i) = b
  repeat' split
  all_goals omega
theorem ldc_r (hw : Wf T w) {q : Int} {i : Nat} (hi : i < tG T) : 0 ≤ ldc T w q i ∧ ldc T w q i ≤ 99 := by
  have hs := (hw.2.2.1 i hi).2
  unfold ldc
  repeat' split
  all_goals omega
theorem x_load4 (D : Nat) (hx : XR s o T w) (ht : Tf T) (hw : Wf T w) {q : Int} (h0 : 0 ≤ q) (h1 : q < (tN T : Int)) : ∀ (j e : Nat) (c : Int), e + j = tG T → 0 ≤ c → c ≤ 99 * e → L_Rg_loadOf_4 D o q c (e : Int) s = some (c + sumF (ldc T w q) j e, s)
  | 0, e, c, he, hc0, hc => by
    rw [e_Rg_loadOf_4, hx.g, if_neg (by omega)]
    unfold sumF
    rw [Int.add_zero]
  | j + 1, e, c, he, hc0, hc => by
    have hg := ht.2.2.1
    have hn := ht.2.1
    have hs := (hw.2.2.1 e (by omega)).1
    have hr := ldc_r (q := q) hw (i := e) (by omega)
    have hv := (hw.2.2.1 e (by omega)).2
    have go := x_load4 D hx ht hw h0 h1 j (e + 1) (c + ldc T w q e) (by omega) (by omega) (by omega)
    have fin : some (c + sumF (ldc T w q) (j + 1) e, s) = some (c + ldc T w q e + sumF (ldc T w q) j (e + 1), s) := by
      rw [show sumF (ldc T w q) (j + 1) e = ldc T w q e + sumF (ldc T w q) j (e + 1) from rfl, Int.add_assoc]
    rw [fin, ← go, e_Rg_loadOf_4, hx.g, if_pos (by omega), if_pos (by omega), inB_n (by omega)]
    simp only [Int.toNat_natCast]
    rw [hx.2.2.2.2.1 e (by omega)]
    have l50 : ∀ f : Int, f = (if q < w (10 + 2 * e) then w (10 + 2 * e) - q else q - w (10 + 2 * e)) → L_Rg_loadOf_50 D o q c (e : Int) f s = L_Rg_loadOf_4 D o q (c + ldc T w q e) ((e + 1 : Nat) : Int) s := by
      intro f hf
      rw [e_Rg_loadOf_50, hx.n]
      have hl : ldc T w q e = if f ≤ 1 ∨ f = (tN T : Int) - 1 then w (11 + 2 * e) else 0 := by rw [hf]; rfl
      rw [w32_i (z := (tN T : Int) - 1) (by omega) (by omega)]
      by_cases a1 : 1 < f
      · rw [if_pos a1]
        by_cases a2 : f = (tN T : Int) - 1
        · rw [if_pos a2, inB_n (by omega)]
          simp only [Int.toNat_natCast]
          rw [hx.2.2.2.2.2.1 e (by omega), w32_s (by omega), w32_i (by omega) (by omega), hl, if_pos (Or.inr a2)]
        · rw [if_neg a2, w32_s (by omega), hl, if_neg (by omega), Int.add_zero]
      · rw [if_neg a1, inB_n (by omega)]
        simp only [Int.toNat_natCast]
        rw [hx.2.2.2.2.2.1 e (by omega), w32_s (by omega), w32_i (by omega) (by omega), hl, if_pos (Or.inl (by omega))]
    by_cases a : q < w (10 + 2 * e)
    · rw [if_pos a, inB_n (by omega)]
      exact l50 _ (by rw [if_pos a, w32_i (by omega) (by omega)])
    · rw [if_neg a, inB_n (by omega)]
      exact l50 _ (by rw [if_neg a, w32_i (by omega) (by omega)])
theorem x_loadOf (D : Nat) (hx : XR s o T w) (ht : Tf T) (hw : Wf T w) {q : Int} (h0 : 0 ≤ q) (h1 : q < (tN T : Int)) : f_Rg_loadOf (D + 1) o q s = some (lod T w q, s) := by
  rw [e_Rg_loadOf, lod_sum ht hw h0 h1]
  have := x_load4 D hx ht hw h0 h1 (tG T) 0 0 (by omega) (by omega) (by omega)
  rw [Int.zero_add] at this
  exact this
theorem x_hoop (hx : XR s o T w) {q : Int} (h0 : 0 ≤ q) (h1 : q < 9) : iAnd (iShr (rI s o 2) q) 1 = w (1 + q.toNat) := by
  obtain ⟨a, h2, h3, h4⟩ := hx.2.2.2.1
  obtain ⟨k, rfl⟩ := Int.eq_ofNat_of_zero_le h0
  rw [h2, bit_n (by omega) (by omega), Int.toNat_natCast]
  exact h4 k (by omega)
end XRING
