/-! rows of seats come to an end: each has a rank, less than 5040 -/
def fct : Nat → Int
  | 0 => 1
  | j + 1 => ((j : Int) + 1) * fct j
def rkS (r : Nat → Int) : Nat → Nat → Int
  | 0, _ => 0
  | j + 1, k => sumF (fun i => if r i < r k then 1 else 0) j (k + 1) * fct j + rkS r j (k + 1)
theorem fct_p : ∀ j, 1 ≤ fct j
  | 0 => by unfold fct; omega
  | j + 1 => by
    unfold fct
    have h := fct_p j
    have : (1 : Int) * 1 ≤ ((j : Int) + 1) * fct j := Int.mul_le_mul (by omega) h (by omega) (by omega)
    omega
theorem cnt_r (f : Nat → Int) (v : Int) (j k : Nat) : 0 ≤ sumF (fun i => if f i < v then 1 else 0) j k ∧ sumF (fun i => if f i < v then 1 else 0) j k ≤ (j : Int) := by
  have h := sumF_r (f := fun i => if f i < v then (1 : Int) else 0) (b := 1) (j := j) (k := k) (fun i _ _ => by split <;> omega)
  omega
theorem rkS_r (r : Nat → Int) : ∀ j k, 0 ≤ rkS r j k ∧ rkS r j k < fct j
  | 0, k => by unfold rkS fct; omega
  | j + 1, k => by
    show 0 ≤ sumF (fun i => if r i < r k then 1 else 0) j (k + 1) * fct j + rkS r j (k + 1) ∧ sumF (fun i => if r i < r k then 1 else 0) j (k + 1) * fct j + rkS r j (k + 1) < ((j : Int) + 1) * fct j
    have h1 := rkS_r r j (k + 1)
    have h2 := cnt_r r (r k) j (k + 1)
    have h3 := fct_p j
    have h4 : sumF (fun i => if r i < r k then 1 else 0) j (k + 1) * fct j ≤ (j : Int) * fct j := Int.mul_le_mul_of_nonneg_right h2.2 (by omega)
    have h5 : 0 ≤ sumF (fun i => if r i < r k then 1 else 0) j (k + 1) * fct j := Int.mul_nonneg h2.1 (by omega)
    rw [Int.add_mul, Int.one_mul]
    omega
theorem sumF_le {f f' : Nat → Int} : ∀ {j k : Nat}, (∀ i, k ≤ i → i < k + j → f i ≤ f' i) → sumF f j k ≤ sumF f' j k
  | 0, _, _ => Int.le_refl _
  | j + 1, k, h => by
    unfold sumF
    have h1 := h k (Nat.le_refl _) (by omega)
    have h2 := sumF_le (j := j) (k := k + 1) (fun i g1 g2 => h i (by omega) (by omega))
    omega
theorem rk_lt {r r' : Nat → Int} : ∀ (j k t : Nat), (∀ v : Int, sumF (fun i => if r i < v then 1 else 0) j k = sumF (fun i => if r' i < v then 1 else 0) j k) → k ≤ t → t < k + j → (∀ i, k ≤ i → i < t → r i = r' i) → r t < r' t → rkS r j k + 1 ≤ rkS r' j k
  | 0, k, t, _, h1, h2, _, _ => by omega
  | j + 1, k, t, hv, h1, h2, h3, h4 => by
    unfold rkS
    have tail : ∀ v : Int, (if r k < v then (1 : Int) else 0) + sumF (fun i => if r i < v then 1 else 0) j (k + 1) = (if r' k < v then (1 : Int) else 0) + sumF (fun i => if r' i < v then 1 else 0) j (k + 1) := hv
    by_cases e : t = k
    · subst e
      have h5 := tail (r' t)
      rw [if_pos h4, if_neg (by omega)] at h5
      have h6 : sumF (fun i => if r i < r t then (1 : Int) else 0) j (t + 1) ≤ sumF (fun i => if r i < r' t then (1 : Int) else 0) j (t + 1) := sumF_le (fun i _ _ => by
        by_cases a : r i < r t
        · rw [if_pos a, if_pos (by omega)]
          omega
        · rw [if_neg a]
          split <;> omega)
      have h7 := rkS_r r j (t + 1)
      have h8 := rkS_r r' j (t + 1)
      have h9 := fct_p j
      generalize sumF (fun i => if r i < r t then (1 : Int) else 0) j (t + 1) = c1 at h6 ⊢
      generalize sumF (fun i => if r' i < r' t then (1 : Int) else 0) j (t + 1) = c2 at h5 ⊢
      have h10 : (c1 + 1) * fct j ≤ c2 * fct j := Int.mul_le_mul_of_nonneg_right (by omega) (by omega)
      rw [Int.add_mul, Int.one_mul] at h10
      omega
    · have hk : r k = r' k := h3 k (Nat.le_refl _) (by omega)
      have tl : ∀ v : Int, sumF (fun i => if r i < v then 1 else 0) j (k + 1) = sumF (fun i => if r' i < v then 1 else 0) j (k + 1) := fun v => by
        have := tail v
        rw [hk] at this
        omega
      have ih := rk_lt j (k + 1) t tl (by omega) (by omega) (fun i g1 g2 => h3 i (by omega) g2) h4
      rw [hk, tl]
      omega
theorem xch_sum (h : Int → Int) (r : Nat → Int) {a b g : Nat} (ha : a < g) (hb : b < g) : sumF (fun i => h (xch r a b i)) g 0 = sumF (fun i => h (r i)) g 0 := by
  by_cases e : a = b
  · subst e
    apply sumF_c
    intro i _ _
    unfold xch
    by_cases q : i = a
    · rw [if_pos q, q]
    · rw [if_neg q, if_neg q]
  · have e1 : sumF (fun i => h (xch r a b i)) g 0 = sumF (fun i => h (r i) + ((if i = a then h (r b) - h (r a) else 0) + (if i = b then h (r a) - h (r b) else 0))) g 0 := by
      apply sumF_c
      intro i _ _
      unfold xch
      by_cases q : i = b
      · rw [if_pos q, if_neg (by omega), if_pos q, q]
        omega
      · rw [if_neg q, if_neg q]
        by_cases q2 : i = a
        · rw [if_pos q2, if_pos q2, q2]
          omega
        · rw [if_neg q2, if_neg q2]
          omega
    rw [e1, sumF_a, sumF_a, sumF_1 (f := fun i => if i = a then h (r b) - h (r a) else 0) (i := a) (Nat.zero_le _) (by omega) (fun i _ _ hne => if_neg hne), sumF_1 (f := fun i => if i = b then h (r a) - h (r b) else 0) (i := b) (Nat.zero_le _) (by omega) (fun i _ _ hne => if_neg hne), if_pos rfl, if_pos rfl]
    omega
theorem rvr_sum (h : Int → Int) {g : Nat} : ∀ (j : Nat) (r : Nat → Int) (lo hi : Nat), hi < g → sumF (fun i => h (rvr j r lo hi i)) g 0 = sumF (fun i => h (r i)) g 0
  | 0, _, _, _, _ => rfl
  | j + 1, r, lo, hi, hh => by
    unfold rvr
    by_cases q : lo < hi
    · simp only [if_pos q]
      rw [rvr_sum h j _ _ _ (by omega), xch_sum h r (by omega) hh]
    · simp only [if_neg q]
theorem rvr_lo : ∀ (j : Nat) (r : Nat → Int) (lo hi i : Nat), i < lo → rvr j r lo hi i = r i
  | 0, _, _, _, _, _ => rfl
  | j + 1, r, lo, hi, i, h => by
    unfold rvr
    by_cases q : lo < hi
    · rw [if_pos q, rvr_lo j _ _ _ i (by omega)]
      unfold xch
      rw [if_neg (by omega), if_neg (by omega)]
    · rw [if_neg q]
theorem wir_r2 (r : Nat → Int) {t : Nat} (ht : ¬ r (t + 1) < r t) : ∀ m, t < m → ¬ r (wir r t m) < r t ∧ t < wir r t m
  | 0, h => by omega
  | m + 1, h => by
    unfold wir
    by_cases q : r (m + 1) < r t
    · have hne : t ≠ m := fun z => ht (z ▸ q)
      rw [if_pos q]
      exact wir_r2 r ht m (by omega)
    · rw [if_neg q]
      exact ⟨q, h⟩
/-- the next row's rank is greater -/
theorem rk_next {T : Tab} {r : Nat → Int} (h : Rok T r) (h0 : ¬ tnr r (tG T - 1) < 0) : rkS r (tG T) 0 + 1 ≤ rkS (nxr (tG T) r) (tG T) 0 := by
  rcases tnr_r r (tG T - 1) with h1 | ⟨t, h1, h2, h3⟩
  · omega
  · have h4 := wir_r2 r h3 (tG T - 1) h1
    have h5 := wir_r r t (tG T - 1)
    have hn : nxr (tG T) r = rvr 9 (xch r t (wir r t (tG T - 1))) (t + 1) (tG T - 1) := by
      unfold nxr
      rw [h2, Int.toNat_natCast]
    refine rk_lt (tG T) 0 t (fun v => ?_) (Nat.zero_le _) (by omega) (fun i _ hi => ?_) ?_
    · rw [hn, rvr_sum (fun z => if z < v then 1 else 0) 9 _ _ _ (by omega), xch_sum (fun z => if z < v then 1 else 0) r (by omega) (by omega)]
    · rw [hn, rvr_lo _ _ _ _ _ (by omega)]
      unfold xch
      rw [if_neg (by omega), if_neg (by omega)]
    · rw [hn, rvr_lo _ _ _ _ _ (by omega)]
      unfold xch
      rw [if_neg (by omega), if_pos rfl]
      have := h.2 t (wir r t (tG T - 1)) (by omega) (by omega)
      omega
theorem fct_7 {g : Nat} (hg : g ≤ 7) : fct g ≤ 5040 := by
  have : g = 0 ∨ g = 1 ∨ g = 2 ∨ g = 3 ∨ g = 4 ∨ g = 5 ∨ g = 6 ∨ g = 7 := by omega
  rcases this with rfl | rfl | rfl | rfl | rfl | rfl | rfl | rfl <;> decide
