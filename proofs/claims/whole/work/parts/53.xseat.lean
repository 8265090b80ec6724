/-! rows of seats; the class's seating -/
def tnr (r : Nat → Int) : Nat → Int
  | 0 => -1
  | m + 1 => if r (m + 1) < r m then tnr r m else (m : Int)
def wir (r : Nat → Int) (t : Nat) : Nat → Nat
  | 0 => 0
  | m + 1 => if r (m + 1) < r t then wir r t m else m + 1
def xch (r : Nat → Int) (a b : Nat) : Nat → Int := fun i => if i = b then r a else if i = a then r b else r i
def rvr : Nat → (Nat → Int) → Nat → Nat → (Nat → Int)
  | 0, r, _, _ => r
  | j + 1, r, lo, hi => if lo < hi then rvr j (xch r lo hi) (lo + 1) (hi - 1) else r
def nxr (g : Nat) (r : Nat → Int) : Nat → Int := rvr 9 (xch r (tnr r (g - 1)).toNat (wir r (tnr r (g - 1)).toNat (g - 1))) ((tnr r (g - 1)).toNat + 1) (g - 1)
def wst (T : Tab) (w r : Nat → Int) : Nat → Int := fun i => if 10 ≤ i ∧ i < 10 + 2 * tG T ∧ i % 2 = 0 then r ((i - 10) / 2) else w i
def seF (T : Tab) (n : Nat) (w : Nat → Int) : Nat → (Nat → Int) → Int → (Nat → Int) → Int × (Nat → Int)
  | 0, _, few, best => (few, best)
  | j + 1, r, few, best =>
    if (if few = -1 ∨ (bns T n (wst T w r) : Int) < few then (bns T n (wst T w r) : Int) else few) = 0 ∨ tnr r (tG T - 1) < 0 then
      (if few = -1 ∨ (bns T n (wst T w r) : Int) < few then (bns T n (wst T w r) : Int) else few, if few = -1 ∨ (bns T n (wst T w r) : Int) < few then r else best)
    else seF T n w j (nxr (tG T) r) (if few = -1 ∨ (bns T n (wst T w r) : Int) < few then (bns T n (wst T w r) : Int) else few) (if few = -1 ∨ (bns T n (wst T w r) : Int) < few then r else best)
/-- the seats taken, from the least on: the first row of all -/
def fsr (T : Tab) (w : Nat → Int) : Nat → Nat → Nat → (Nat → Int) → Nat × (Nat → Int)
  | 0, _, m, r => (m, r)
  | j + 1, q, m, r => if who w (tG T) (q : Int) = -1 then fsr T w j (q + 1) m r else fsr T w j (q + 1) (m + 1) (upW r m (q : Int))
def seS (T : Tab) (n : Nat) (w : Nat → Int) : Int × (Nat → Int) := seF T n w 5040 (fsr T w (tN T) 0 0 (fun _ => 0)).2 (-1) (fun _ => 0)
/-- a row that may be: seats that there are, no two alike -/
def Rok (T : Tab) (r : Nat → Int) : Prop := (∀ k, k < tG T → 0 ≤ r k ∧ r k < (tN T : Int)) ∧ ∀ j k, j < tG T → k < tG T → r j = r k → j = k
theorem xch_ok {T : Tab} {r : Nat → Int} (h : Rok T r) {a b : Nat} (ha : a < tG T) (hb : b < tG T) : Rok T (xch r a b) := by
  obtain ⟨h1, h2⟩ := h
  refine ⟨fun k hk => ?_, fun j k hj hk e => ?_⟩
  · unfold xch
    repeat' split
    · exact h1 a ha
    · exact h1 b hb
    · exact h1 k hk
  · unfold xch at e
    by_cases j1 : j = b
    · rw [if_pos j1] at e
      by_cases k1 : k = b
      · omega
      · rw [if_neg k1] at e
        by_cases k2 : k = a
        · rw [if_pos k2] at e; have := h2 a b ha hb e; omega
        · rw [if_neg k2] at e; have := h2 a k ha hk e; omega
    · rw [if_neg j1] at e
      by_cases j2 : j = a
      · rw [if_pos j2] at e
        by_cases k1 : k = b
        · rw [if_pos k1] at e; have := h2 b a hb ha e; omega
        · rw [if_neg k1] at e
          by_cases k2 : k = a
          · omega
          · rw [if_neg k2] at e; have := h2 b k hb hk e; omega
      · rw [if_neg j2] at e
        by_cases k1 : k = b
        · rw [if_pos k1] at e; have := h2 j a hj ha e; omega
        · rw [if_neg k1] at e
          by_cases k2 : k = a
          · rw [if_pos k2] at e; have := h2 j b hj hb e; omega
          · rw [if_neg k2] at e; exact h2 j k hj hk e
theorem rvr_ok {T : Tab} : ∀ (j : Nat) {r : Nat → Int} {lo hi : Nat}, Rok T r → hi < tG T → Rok T (rvr j r lo hi)
  | 0, _, _, _, h, _ => h
  | j + 1, r, lo, hi, h, hh => by
    unfold rvr
    split
    · exact rvr_ok j (xch_ok h (by omega) hh) (by omega)
    · exact h
theorem tnr_r (r : Nat → Int) : ∀ m, tnr r m = -1 ∨ ∃ t, t < m ∧ tnr r m = (t : Int) ∧ ¬ r (t + 1) < r t
  | 0 => Or.inl rfl
  | m + 1 => by
    unfold tnr
    split
    · rcases tnr_r r m with h | ⟨t, h1, h2, h3⟩
      · exact Or.inl h
      · exact Or.inr ⟨t, by omega, h2, h3⟩
    · next h => exact Or.inr ⟨m, by omega, rfl, h⟩
theorem wir_r (r : Nat → Int) (t : Nat) : ∀ m, wir r t m ≤ m
  | 0 => Nat.le_refl _
  | m + 1 => by
    unfold wir
    split
    · have := wir_r r t m
      omega
    · omega
theorem nxr_ok {T : Tab} {r : Nat → Int} (h : Rok T r) (ht : ¬ tnr r (tG T - 1) < 0) : Rok T (nxr (tG T) r) := by
  rcases tnr_r r (tG T - 1) with h1 | ⟨t, h1, h2, h3⟩
  · omega
  · unfold nxr
    rw [h2, Int.toNat_natCast]
    have := wir_r r t (tG T - 1)
    exact rvr_ok 9 (xch_ok h (by omega) (by omega)) (by omega)
theorem wst_at {T : Tab} {w r : Nat → Int} {k : Nat} (hk : k < tG T) : wst T w r (10 + 2 * k) = r k := by
  unfold wst
  rw [if_pos (by omega), show (10 + 2 * k - 10) / 2 = k by omega]
theorem wst_se {T : Tab} {w r : Nat → Int} (hr : Rok T r) : Se T w (wst T w r) := by
  refine ⟨if_neg (by omega), fun q hq => if_neg (by omega), fun k hk => if_neg (by omega), fun k hk => ?_, fun j k hj hk e => ?_⟩
  · rw [wst_at hk]; exact hr.1 k hk
  · rw [wst_at hj, wst_at hk] at e; exact hr.2 j k hj hk e
/-- a row in the cells p -/
def Rw (s : Mem) (p g : Nat) (r : Nat → Int) : Prop := ∀ k, k < g → rI s p k = r k
theorem Rw.fr {s s' : Mem} {p g : Nat} {r : Nat → Int} {P : Nat → Nat → Prop} (h : Rw s p g r) (hf : Fr P s s') (hp : ∀ a k, P a k → a ≠ p) : Rw s' p g r := fun k hk => (hf.i (fun q => hp _ _ q rfl)).trans (h k hk)
theorem Rw.ex {s : Mem} {p g : Nat} {r : Nat → Int} (h : Rw s p g r) {a b : Nat} (ha : a < g) (hb : b < g) : Rw (wI (wI s p a (rI s p b)) p b (rI s p a)) p g (xch r a b) := fun k hk => by
  rw [rI_wI, rI_wI, h a ha, h b hb, h k hk]
  unfold xch
  by_cases h1 : k = b
  · rw [if_pos ⟨rfl, h1⟩, if_pos h1]
  · rw [if_neg (by omega), if_neg h1]
    by_cases h2 : k = a
    · rw [if_pos ⟨rfl, h2⟩, if_pos h2]
    · rw [if_neg (by omega), if_neg h2]
theorem fsr_ok {T : Tab} {w : Nat → Int} (hw : Wf T w) : ∀ (j q m : Nat) (r : Nat → Int), q + j ≤ tN T → (∀ k, k < m → 0 ≤ r k ∧ r k < (q : Int)) → (∀ i k, i < m → k < m → r i = r k → i = k) → (∀ k, k < (fsr T w j q m r).1 → 0 ≤ (fsr T w j q m r).2 k ∧ (fsr T w j q m r).2 k < ((q + j : Nat) : Int)) ∧ ∀ i k, i < (fsr T w j q m r).1 → k < (fsr T w j q m r).1 → (fsr T w j q m r).2 i = (fsr T w j q m r).2 k → i = k
  | 0, q, m, r, hj, h1, h2 => ⟨h1, h2⟩
  | j + 1, q, m, r, hj, h1, h2 => by
    unfold fsr
    rw [show q + (j + 1) = (q + 1) + j by omega]
    split
    · exact fsr_ok hw j (q + 1) m r (by omega) (fun k hk => by have := h1 k hk; omega) h2
    · refine fsr_ok hw j (q + 1) (m + 1) _ (by omega) (fun k hk => ?_) (fun i k hi hk e => ?_)
      · by_cases e : k = m
        · rw [e, upW_s]; omega
        · rw [upW_o e]; have := h1 k (by omega); omega
      · by_cases e1 : i = m
        · by_cases e2 : k = m
          · omega
          · rw [e1, upW_s, upW_o e2] at e; have := h1 k (by omega); omega
        · by_cases e2 : k = m
          · rw [e2, upW_s, upW_o e1] at e; have := h1 i (by omega); omega
          · rw [upW_o e1, upW_o e2] at e; exact h2 i k (by omega) (by omega) e
/-- as many seats are taken as there are guests -/
theorem fsr_len {T : Tab} {w : Nat → Int} (hw : Wf T w) : ∀ (j q m : Nat) (r : Nat → Int), q + j = tN T → (fsr T w j q m r).1 = m + (sumF (fun k => if (q : Int) ≤ w (10 + 2 * k) then 1 else 0) (tG T) 0).toNat
  | 0, q, m, r, hj => by
    unfold fsr
    rw [sumF_0 (fun i _ hi => if_neg (by have := (hw.2.2.1 i (by omega)).1; omega))]
    rfl
  | j + 1, q, m, r, hj => by
    unfold fsr
    have split1 : sumF (fun k => if (q : Int) ≤ w (10 + 2 * k) then (1 : Int) else 0) (tG T) 0 = sumF (fun k => if w (10 + 2 * k) = (q : Int) then (1 : Int) else 0) (tG T) 0 + sumF (fun k => if ((q + 1 : Nat) : Int) ≤ w (10 + 2 * k) then (1 : Int) else 0) (tG T) 0 := by
      rw [← sumF_a]
      apply sumF_c
      intro i _ hi
      repeat' split
      all_goals omega
    have hr2 := sumF_r (f := fun k => if ((q + 1 : Nat) : Int) ≤ w (10 + 2 * k) then (1 : Int) else 0) (b := 1) (j := tG T) (k := 0) (fun i _ _ => by split <;> omega)
    rw [split1]
    rcases who_or w (tG T) (q : Int) with ⟨h1, h2⟩ | ⟨i, h2, h3, h4⟩
    · rw [if_pos h1, fsr_len hw j (q + 1) m r (by omega), sumF_0 (f := fun k => if w (10 + 2 * k) = (q : Int) then (1 : Int) else 0) (fun i _ hi => if_neg (h2 i (by omega))), Int.zero_add]
    · rw [h3, if_neg (by omega), fsr_len hw j (q + 1) (m + 1) _ (by omega), sumF_1 (f := fun k => if w (10 + 2 * k) = (q : Int) then (1 : Int) else 0) (i := i) (Nat.zero_le _) (by omega) (fun a _ ha hne => if_neg (fun e => hne (hw.2.2.2 a i (by omega) h2 (e.trans h4.symm)))), if_pos h4]
      omega
theorem sumF_one (j k : Nat) : sumF (fun _ => (1 : Int)) j k = (j : Int) := by
  induction j generalizing k with
  | zero => rfl
  | succ j ih => unfold sumF; rw [ih]; omega
theorem fsr_g {T : Tab} {w : Nat → Int} (hw : Wf T w) (r : Nat → Int) : (fsr T w (tN T) 0 0 r).1 = tG T := by
  rw [fsr_len hw (tN T) 0 0 r (by omega), sumF_c (f' := fun _ => (1 : Int)) (fun i _ hi => if_pos (by have := (hw.2.2.1 i (by omega)).1; omega)), sumF_one]
  omega
theorem fsr_le {T : Tab} {w : Nat → Int} : ∀ (j q m : Nat) (r : Nat → Int), m ≤ (fsr T w j q m r).1
  | 0, _, _, _ => Nat.le_refl _
  | j + 1, q, m, r => by
    unfold fsr
    split
    · exact fsr_le j (q + 1) m r
    · exact Nat.le_of_succ_le (fsr_le j (q + 1) (m + 1) _)
theorem fsr_rok {T : Tab} {w : Nat → Int} (hw : Wf T w) (r : Nat → Int) : Rok T (fsr T w (tN T) 0 0 r).2 := by
  have h := fsr_ok hw (tN T) 0 0 r (by omega) (fun k hk => by omega) (fun i k hi => by omega)
  rw [fsr_g hw r, Nat.zero_add] at h
  exact h
section XSEAT
variable {T : Tab} {w : Nat → Int}
theorem x_first (D : Nat) (ht : Tf T) (hw : Wf T w) : ∀ (j q m : Nat) (r : Nat → Int) (s : Mem), q + j = tN T → (fsr T w j q m r).1 = tG T → XM s T w → Rw s 80 m r → ∃ s1, L_Pl_takeFirstRow_4 D 28 (m : Int) (q : Int) s = some (0, s1) ∧ Fr (fun a _ => a = 80) s s1 ∧ Rw s1 80 (tG T) (fsr T w j q m r).2
  | 0, q, m, r, s, hj, hg, hx, hr => by
    have hn := ht.2.1
    have hnone : ∀ i, q ≤ i → i < 9 → rI s 32 i = -1 := fun i h1 h2 => by
      rw [hx.1.2.2.2.2.2.2.2 i h2]
      rcases who_or w (tG T) (i : Int) with ⟨h3, -⟩ | ⟨k, h3, -, h4⟩
      · exact h3
      · have := (hw.2.2.1 k h3).1; omega
    have key : ∀ (d i : Nat), i + d = 9 → q ≤ i → L_Pl_takeFirstRow_4 D 28 (m : Int) (i : Int) s = some (0, s) := by
      intro d
      induction d with
      | zero => intro i hi hq; rw [e_Pl_takeFirstRow_4, if_neg (by omega)]
      | succ d ih =>
        intro i hi hq
        rw [e_Pl_takeFirstRow_4, if_pos (by omega), inB_n (by omega), Int.toNat_natCast, hnone i hq (by omega), if_pos rfl, w32_s (by omega)]
        exact ih (i + 1) (by omega) (by omega)
    exact ⟨s, key (9 - q) q (by omega) (Nat.le_refl _), Fr.rf, by rw [← hg]; exact hr⟩
  | j + 1, q, m, r, s, hj, hg, hx, hr => by
    have hn := ht.2.1
    have hg7 := ht.2.2.1
    unfold fsr at hg ⊢
    have h32 : rI s 32 q = who w (tG T) (q : Int) := hx.1.2.2.2.2.2.2.2 q (by omega)
    rw [e_Pl_takeFirstRow_4, if_pos (by omega), inB_n (by omega), Int.toNat_natCast, h32, w32_s (by omega)]
    by_cases h1 : who w (tG T) (q : Int) = -1
    · rw [if_pos h1] at hg
      rw [if_pos h1, if_pos h1]
      exact x_first D ht hw j (q + 1) m r s (by omega) hg hx hr
    · rw [if_neg h1] at hg
      have hml := fsr_le (T := T) (w := w) j (q + 1) (m + 1) (upW r m (q : Int))
      have f1 : Fr (fun a _ => a = 80) s (wI s 80 m (q : Int)) := Fr.rf.w rfl
      obtain ⟨s1, e1, f2, g1⟩ := x_first D ht hw j (q + 1) (m + 1) (upW r m (q : Int)) _ (by omega) hg (hx.fr f1 (fun a k z => by omega)) (fun k hk => by
        by_cases e : k = m
        · rw [e, rI_same, upW_s]
        · rw [rI_other _ _ _ _ (by omega), upW_o e]; exact hr k (by omega))
      rw [if_neg h1, if_neg h1, if_pos (by omega), inB_n (by omega), Int.toNat_natCast, w32_s (by omega)]
      exact ⟨s1, e1, f1.tr f2, g1⟩
theorem x_exch (D : Nat) {s : Mem} {g : Nat} {r : Nat → Int} (hg : g ≤ 7) (h : Rw s 80 g r) {a b : Nat} (ha : a < g) (hb : b < g) : ∃ s1, f_Pl_exchange (D + 1) (a : Int) (b : Int) s = some (0, s1) ∧ Fr (fun a _ => a = 80) s s1 ∧ Rw s1 80 g (xch r a b) := by
  rw [e_Pl_exchange, inB_n (by omega), inB_n (by omega), inB_n (by omega), inB_n (by omega), Int.toNat_natCast, Int.toNat_natCast]
  exact ⟨_, rfl, (Fr.rf.w (P := fun a _ => a = 80) rfl).w rfl, h.ex ha hb⟩
theorem x_rev (D : Nat) {g : Nat} (hg : g ≤ 7) : ∀ (j : Nat) (r : Nat → Int) (lo hi : Nat) (s : Mem), hi < g → hi < lo + 2 * j + 1 → Rw s 80 g r → ∃ s1, L_Pl_takeNextRow_98 (D + 1) (lo : Int) (hi : Int) s = some (1, s1) ∧ Fr (fun a _ => a = 80) s s1 ∧ Rw s1 80 g (rvr j r lo hi)
  | 0, r, lo, hi, s, hh, hj, hr => by
    rw [e_Pl_takeNextRow_98, if_neg (by omega)]
    exact ⟨s, rfl, Fr.rf, hr⟩
  | j + 1, r, lo, hi, s, hh, hj, hr => by
    unfold rvr
    rw [e_Pl_takeNextRow_98]
    by_cases h : lo < hi
    · obtain ⟨s1, e1, f1, g1⟩ := x_exch D hg hr (a := lo) (b := hi) (by omega) hh
      obtain ⟨s2, e2, f2, g2⟩ := x_rev D hg j _ (lo + 1) (hi - 1) s1 (by omega) (by omega) g1
      rw [if_pos (by omega), if_pos h, e1, Option.bind_some]
      simp only []
      rw [w32_s (by omega), show w32 ((hi : Int) + -1) = ((hi - 1 : Nat) : Int) by rw [w32_i (by omega) (by omega)]; omega]
      exact ⟨s2, e2, f1.tr f2, g2⟩
    · rw [if_neg (by omega), if_neg h]
      exact ⟨s, rfl, Fr.rf, hr⟩
theorem x_next51 (D : Nat) {g t : Nat} {r : Nat → Int} {s : Mem} (hg : g ≤ 7) (hr : Rw s 80 g r) (ht : ¬ r (t + 1) < r t) : ∀ m, t < m → m < g → L_Pl_takeNextRow_51 D (g : Int) (t : Int) (m : Int) s = L_Pl_takeNextRow_77 D (g : Int) (t : Int) (wir r t m : Int) s ∧ t < wir r t m
  | 0, h1, h2 => by omega
  | m + 1, h1, h2 => by
    rw [e_Pl_takeNextRow_51, if_pos (by omega), inB_n (by omega), inB_n (by omega), Int.toNat_natCast, Int.toNat_natCast, hr _ h2, hr t (by omega)]
    unfold wir
    by_cases h : r (m + 1) < r t
    · have hne : t ≠ m := fun z => ht (z ▸ h)
      rw [if_pos h, if_pos h, show w32 (((m + 1 : Nat) : Int) + -1) = (m : Int) by rw [w32_i (by omega) (by omega)]; omega]
      exact x_next51 D hg hr ht m (by omega) (by omega)
    · rw [if_neg h, if_neg h]
      exact ⟨rfl, h1⟩
theorem x_next9 (D : Nat) {g : Nat} {r : Nat → Int} {s : Mem} (hg : g ≤ 7) (hr : Rw s 80 g r) : ∀ m, m < g → L_Pl_takeNextRow_9 D (g : Int) ((m : Int) - 1) s = L_Pl_takeNextRow_36 D (g : Int) (tnr r m) s
  | 0, h => by
    rw [e_Pl_takeNextRow_9, if_pos (by omega)]
    rfl
  | m + 1, h => by
    have e1 : ((m + 1 : Nat) : Int) - 1 = (m : Int) := by omega
    rw [e1, e_Pl_takeNextRow_9, if_neg (by omega), inB_n (by omega), w32_s (by omega), inB_n (by omega), Int.toNat_natCast, Int.toNat_natCast, hr _ h, hr m (by omega)]
    unfold tnr
    by_cases h2 : r (m + 1) < r m
    · rw [if_pos h2, if_pos h2, show w32 ((m : Int) + -1) = (m : Int) - 1 by rw [w32_i (by omega) (by omega)]; omega]
      exact x_next9 D hg hr m (by omega)
    · rw [if_neg h2, if_neg h2]
/-- the next row of all: the class's way -/
theorem x_next (D : Nat) {g : Nat} {r : Nat → Int} {s : Mem} (hg : g ≤ 7) (hr : Rw s 80 g r) : ∃ s1, f_Pl_takeNextRow (D + 2) (g : Int) s = some (if tnr r (g - 1) < 0 then 0 else 1, s1) ∧ Fr (fun a _ => a = 80) s s1 ∧ (¬ tnr r (g - 1) < 0 → Rw s1 80 g (nxr g r)) := by
  have h36 : f_Pl_takeNextRow (D + 2) (g : Int) s = L_Pl_takeNextRow_36 (D + 1) (g : Int) (tnr r (g - 1)) s ∨ (g = 0 ∧ f_Pl_takeNextRow (D + 2) (g : Int) s = some (0, s)) := by
    rw [show f_Pl_takeNextRow (D + 2) (g : Int) s = f_Pl_takeNextRow (D + 1 + 1) (g : Int) s from rfl, e_Pl_takeNextRow, x_min, Option.bind_some]
    simp only []
    rw [if_neg (by omega), w32_i (by omega) (by omega)]
    by_cases h0 : g = 0
    · right
      subst h0
      refine ⟨rfl, ?_⟩
      rw [e_Pl_takeNextRow_9, if_pos (by omega), e_Pl_takeNextRow_36, if_pos (by omega)]
    · left
      rw [show (g : Int) - 2 = ((g - 1 : Nat) : Int) - 1 by omega]
      exact x_next9 (D + 1) hg hr (g - 1) (by omega)
  rcases h36 with h36 | ⟨rfl, h0⟩
  · rw [h36, e_Pl_takeNextRow_36]
    rcases tnr_r r (g - 1) with h1 | ⟨t, h1, h2, h3⟩
    · rw [h1, if_pos (by omega), if_pos (by omega)]
      exact ⟨s, rfl, Fr.rf, fun h => by omega⟩
    · rw [h2, if_neg (by omega), if_neg (by omega), x_min, Option.bind_some]
      simp only []
      rw [if_neg (by omega), show w32 ((g : Int) - 1) = ((g - 1 : Nat) : Int) by rw [w32_i (by omega) (by omega)]; omega]
      obtain ⟨e1, h4⟩ := x_next51 (D + 1) hg hr h3 (g - 1) (by omega) (by omega)
      have h5 := wir_r r t (g - 1)
      obtain ⟨s1, e2, f1, g1⟩ := x_exch D hg hr (a := t) (b := wir r t (g - 1)) (by omega) (by omega)
      obtain ⟨s2, e3, f2, g2⟩ := x_rev D hg 9 (xch r t (wir r t (g - 1))) (t + 1) (g - 1) s1 (by omega) (by omega) g1
      refine ⟨s2, ?_, f1.tr f2, fun _ => ?_⟩
      · rw [e1, e_Pl_takeNextRow_77, e2, Option.bind_some]
        simp only []
        rw [x_min, Option.bind_some]
        simp only []
        rw [if_neg (by omega), w32_s (by omega), show w32 ((g : Int) - 1) = ((g - 1 : Nat) : Int) by rw [w32_i (by omega) (by omega)]; omega]
        exact e3
      · unfold nxr
        rw [h2, Int.toNat_natCast]
        exact g2
  · have ht0 : tnr r (0 - 1) = -1 := rfl
    rw [h0, ht0, if_pos (by omega)]
    exact ⟨s, rfl, Fr.rf, fun h => by omega⟩
abbrev PSe : Nat → Nat → Prop := fun a k => 35 ≤ a ∧ a ≤ 41 ∨ a = 79 ∧ k = 6 ∨ a = 80 ∨ a = 81
theorem PTr_Se : ∀ a k, PTr a k → PSe a k := fun a k h => Or.inl h
theorem PSe33 : ∀ a k, PSe a k → 33 ≤ a := fun a k h => by unfold PSe at h; omega
theorem x_seat30 (D : Nat) {n : Nat} (ht : Tf T) (hw : Wf T w) (hn : n ≤ 100) (hn2 : w 0 + n ≤ 999) : ∀ (j : Nat) (r : Nat → Int) (few : Int) (best : Nat → Int) (s : Mem) (f : Nat), f + j = 5040 → Rok T r → Rw s 80 (tG T) r → XM s T w → ((few = -1 ∧ rI s 79 6 = 1000000) ∨ (1 ≤ few ∧ few ≤ 700 ∧ rI s 79 6 = few ∧ Rw s 81 (tG T) best)) → ∃ s1, L_Pl_seekSeating_30 (D + 6) 28 (n : Int) 1 (f : Int) s = some (0, s1) ∧ Fr PSe s s1 ∧ (0 < j → rI s1 79 6 = (seF T n w j r few best).1 ∧ Rw s1 81 (tG T) (seF T n w j r few best).2)
  | 0, r, few, best, s, f, hf, hk, hr, hx, hs => by
    rw [e_Pl_seekSeating_30, if_neg (by omega)]
    exact ⟨s, rfl, Fr.rf, fun h => by omega⟩
  | j + 1, r, few, best, s, f, hf, hk, hr, hx, hs => by
    have hg := ht.2.2.1
    have hse := wst_se (w := w) hk
    have hw2 := hw.se hse
    have hcur : 0 < rI s 79 6 ∧ rI s 79 6 ≤ 1000000 := by rcases hs with ⟨-, h⟩ | ⟨h1, h2, h3, -⟩ <;> omega
    obtain ⟨s1, e1, f1, x1⟩ := x_copy (D + 5) hx.1 hg
    have f2 : Fr (fun a _ => a = 35 + 1) s1 (cpI s1 80 0 36 0 7) := Fr.rf.cp (fun _ => rfl)
    obtain ⟨s2, e2, f3, x2⟩ := x_reseat (D + 5) x1 ht hw f2 (fun k hk => by
      rw [rI_cpI, if_pos ⟨rfl, Nat.zero_le _, by omega⟩, wst_at hk, Nat.sub_zero, Nat.zero_add, f1.i (by unfold PC; omega)]
      exact hr k hk) hse
    have h79 : rI s2 79 6 = rI s 79 6 := by rw [f3.i (by omega), f1.i (by unfold PC; omega)]
    obtain ⟨s3, c, e3, f4, c1, c2, c3⟩ := x_go D (n := n) (most := rI s 79 6 - 1) x2 ht hw2 (by omega) (by rw [hse.1]; exact hn2)
    have f123 : Fr PTr s s3 := ((f1.mo PC_Tr).tr (f3.mo (fun a k q => by unfold PTr; omega))).tr (f4.mo PP_Tr)
    have x3 := hx.fr f123 PTr33
    have h79c : rI s3 79 6 = rI s 79 6 := f123.i (by unfold PTr; omega)
    have hr3 : Rw s3 80 (tG T) r := hr.fr f123 (fun a k q => by unfold PTr at q; omega)
    have hbn := bns_le hg n (wst T w r)
    have hg3 : rI s3 (rQ s3 28 0) 2 = (tG T : Int) := x3.1.g
    have head : L_Pl_seekSeating_30 (D + 6) 28 (n : Int) 1 (f : Int) s = if c < rI s 79 6 then ((f_Pl_takeNextRow (D + 6) (rI (cpI (wI s3 79 6 c) 80 0 81 0 7) (rQ s3 28 0) 2) (cpI (wI s3 79 6 c) 80 0 81 0 7)).bind fun p4 => L_Pl_seekSeating_30 (D + 6) 28 (n : Int) p4.1 (w32 ((f : Int) + 1)) p4.2) else (f_Pl_takeNextRow (D + 6) (rI s3 (rQ s3 28 0) 2) s3).bind fun p4 => L_Pl_seekSeating_30 (D + 6) 28 (n : Int) p4.1 (w32 ((f : Int) + 1)) p4.2 := by
      rw [e_Pl_seekSeating_30, if_pos (by omega), if_neg (by omega), if_pos hcur.1, e1, Option.bind_some]
      simp only []
      rw [e2, Option.bind_some]
      simp only []
      rw [h79, w32_i (z := rI s 79 6 - 1) (by omega) (by omega), e3, Option.bind_some]
      simp only []
      rw [h79c]
    have cond : (few = -1 ∨ (bns T n (wst T w r) : Int) < few) ↔ (bns T n (wst T w r) : Int) < rI s 79 6 := by
      rcases hs with ⟨h1, h2⟩ | ⟨h1, h2, h3, -⟩
      · rw [h2]; constructor
        · intro _; omega
        · intro _; exact Or.inl h1
      · rw [h3]; constructor
        · intro h; omega
        · intro h; exact Or.inr h
    rw [head]
    unfold seF
    -- what the state is before the next row
    have key : ∃ s4 few' best', (if few = -1 ∨ (bns T n (wst T w r) : Int) < few then (bns T n (wst T w r) : Int) else few) = few' ∧ (if few = -1 ∨ (bns T n (wst T w r) : Int) < few then r else best) = best' ∧ Fr PSe s s4 ∧ XM s4 T w ∧ Rw s4 80 (tG T) r ∧ rI s4 79 6 = few' ∧ 0 ≤ few' ∧ few' ≤ 700 ∧ Rw s4 81 (tG T) best' ∧ (if c < rI s 79 6 then ((f_Pl_takeNextRow (D + 6) (rI (cpI (wI s3 79 6 c) 80 0 81 0 7) (rQ s3 28 0) 2) (cpI (wI s3 79 6 c) 80 0 81 0 7)).bind fun p4 => L_Pl_seekSeating_30 (D + 6) 28 (n : Int) p4.1 (w32 ((f : Int) + 1)) p4.2) else (f_Pl_takeNextRow (D + 6) (rI s3 (rQ s3 28 0) 2) s3).bind fun p4 => L_Pl_seekSeating_30 (D + 6) 28 (n : Int) p4.1 (w32 ((f : Int) + 1)) p4.2) = (f_Pl_takeNextRow (D + 6) (tG T : Int) s4).bind fun p4 => L_Pl_seekSeating_30 (D + 6) 28 (n : Int) p4.1 ((f + 1 : Nat) : Int) p4.2 := by
      by_cases hlt : (bns T n (wst T w r) : Int) < rI s 79 6
      · obtain ⟨hc, -⟩ := c1 (by omega)
        have f5 : Fr (fun a k => a = 79 ∧ k = 6 ∨ a = 81) s3 (cpI (wI s3 79 6 c) 80 0 81 0 7) := (Fr.rf.w (Or.inl ⟨rfl, rfl⟩)).cp (fun k => Or.inr rfl)
        have hT3 := x3.1.2.1.1
        refine ⟨_, _, _, if_pos (cond.mpr hlt), if_pos (cond.mpr hlt), (f123.mo PTr_Se).tr (f5.mo (fun a k q => by unfold PSe; omega)), x3.fr f5 (fun a k q => by omega), hr3.fr f5 (fun a k q => by omega), ?_, by omega, by omega, fun k hk => ?_, ?_⟩
        · rw [rI_cpI, if_neg (by omega), rI_same, hc]
        · rw [rI_cpI, if_pos ⟨rfl, Nat.zero_le _, by omega⟩, Nat.sub_zero, Nat.zero_add, rI_other _ _ _ _ (by omega)]
          exact hr3 k hk
        · rw [if_pos (by omega), w32_s (by omega), f5.i (by omega), hg3]
      · have := c2 (by omega)
        rcases hs with ⟨h1, h2⟩ | ⟨h1, h2, h3, h4⟩
        · omega
        · refine ⟨s3, _, _, if_neg (fun q => hlt (cond.mp q)), if_neg (fun q => hlt (cond.mp q)), f123.mo PTr_Se, x3, hr3, h79c.trans h3, by omega, h2, h4.fr f123 (fun a k q => by unfold PTr at q; omega), ?_⟩
          rw [if_neg (by omega), w32_s (by omega), hg3]
    obtain ⟨s4, few', best', k1, k2, f4, x4, r4, g4, l4, u4, b4, ek⟩ := key
    rw [ek, k1, k2]
    obtain ⟨s5, e5, f5, n5⟩ := x_next (D + 4) hg r4
    have f5b : Fr PSe s s5 := f4.tr (f5.mo (fun a k q => by unfold PSe; omega))
    have g5 : rI s5 79 6 = few' := (f5.i (by omega)).trans g4
    have b5 : Rw s5 81 (tG T) best' := b4.fr f5 (fun a k q => by omega)
    rw [e5, Option.bind_some]
    simp only []
    by_cases ht0 : tnr r (tG T - 1) < 0
    · rw [if_pos ht0, if_pos (Or.inr ht0)]
      have e6 : L_Pl_seekSeating_30 (D + 6) 28 (n : Int) 0 ((f + 1 : Nat) : Int) s5 = some (0, s5) := by
        rw [e_Pl_seekSeating_30]
        by_cases h : ((f + 1 : Nat) : Int) < 5040
        · rw [if_pos h, if_pos rfl]
        · rw [if_neg h]
      exact ⟨s5, e6, f5b, fun _ => ⟨g5, b5⟩⟩
    · rw [if_neg ht0]
      by_cases hz : few' = 0
      · rw [if_pos (Or.inl hz)]
        have e6 : L_Pl_seekSeating_30 (D + 6) 28 (n : Int) 1 ((f + 1 : Nat) : Int) s5 = some (0, s5) := by
          rw [e_Pl_seekSeating_30]
          by_cases h : ((f + 1 : Nat) : Int) < 5040
          · rw [if_pos h, if_neg (by omega), if_neg (by omega)]
          · rw [if_neg h]
        exact ⟨s5, e6, f5b, fun _ => ⟨g5, b5⟩⟩
      · rw [if_neg (by omega)]
        obtain ⟨s6, e6, f6, c6⟩ := x_seat30 D ht hw hn hn2 j (nxr (tG T) r) few' best' s5 (f + 1) (by omega) (nxr_ok hk ht0) (n5 ht0) (x4.fr f5 (fun a k q => by omega)) (Or.inr ⟨by omega, u4, g5, b5⟩)
        refine ⟨s6, e6, f5b.tr f6, fun _ => ?_⟩
        by_cases hj : 0 < j
        · exact c6 hj
        · have hj0 : j = 0 := by omega
          subst hj0
          have e7 : L_Pl_seekSeating_30 (D + 6) 28 (n : Int) 1 ((f + 1 : Nat) : Int) s5 = some (0, s5) := by rw [e_Pl_seekSeating_30, if_neg (by omega)]
          rw [e7] at e6
          cases e6
          exact ⟨g5, b5⟩
/-- what is known of the seating -/
def SeC (s : Mem) (T : Tab) (w : Nat → Int) : Prop := rI s 79 2 = 0 ∨ ∃ n : Nat, rI s 79 2 = (n : Int) ∧ 1 ≤ n ∧ rI s 79 6 = (seS T n w).1 ∧ Rw s 81 (tG T) (seS T n w).2
abbrev PSg : Nat → Nat → Prop := fun a k => 35 ≤ a ∧ a ≤ 41 ∨ a = 79 ∧ (k = 2 ∨ k = 6) ∨ a = 80 ∨ a = 81
theorem x_seekSeating (D : Nat) {s : Mem} {n : Nat} (hx : XM s T w) (ht : Tf T) (hw : Wf T w) (h1 : 1 ≤ n) (hn : n ≤ 100) (hn2 : w 0 + n ≤ 999) (hc : SeC s T w) : ∃ s1, f_Pl_seekSeating (D + 7) 28 (n : Int) s = some (0, s1) ∧ Fr PSg s s1 ∧ rI s1 79 6 = (seS T n w).1 ∧ Rw s1 81 (tG T) (seS T n w).2 ∧ SeC s1 T w := by
  have hg := ht.2.2.1
  rw [e_Pl_seekSeating]
  by_cases he : rI s 79 2 = (n : Int)
  · rw [if_pos he]
    rcases hc with h0 | ⟨m, h2, h3, h4, h5⟩
    · omega
    · have : m = n := by omega
      subst this
      exact ⟨s, rfl, Fr.rf, h4, h5, Or.inr ⟨m, h2, h3, h4, h5⟩⟩
  · have f0 : Fr PSg s (wI (wI s 79 2 (n : Int)) 79 6 1000000) := (Fr.rf.w (by unfold PSg; omega)).w (by unfold PSg; omega)
    have x0 := hx.fr f0 (fun a k q => by unfold PSg at q; omega)
    obtain ⟨s1, e1, f1, g1⟩ := x_first (D + 5) ht hw (tN T) 0 0 (fun _ => 0) _ (by omega) (fsr_g hw _) x0 (fun k hk => by omega)
    have x1 := x0.fr f1 (fun a k q => by omega)
    have h6 : rI s1 79 6 = 1000000 := by rw [f1.i (by omega), rI_same]
    obtain ⟨s2, e2, f2, c2⟩ := x_seat30 D (n := n) ht hw hn hn2 5040 _ (-1) (fun _ => 0) s1 0 rfl (fsr_rok hw _) g1 x1 (Or.inl ⟨rfl, h6⟩)
    obtain ⟨k1, k2⟩ := c2 (by omega)
    have e0 : f_Pl_takeFirstRow (D + 6) 28 (wI (wI s 79 2 (n : Int)) 79 6 1000000) = some (0, s1) := (e_Pl_takeFirstRow (D + 5) 28 _).trans e1
    rw [if_neg he, e0, Option.bind_some]
    refine ⟨s2, e2, (f0.tr (f1.mo (fun a k q => by unfold PSg; omega))).tr (f2.mo (fun a k q => by unfold PSe at q; unfold PSg; omega)), k1, k2, Or.inr ⟨n, ?_, h1, k1, k2⟩⟩
    rw [f2.i (by unfold PSe; omega), f1.i (by omega), rI_other _ _ _ _ (by omega), rI_same]
def sSeating (T : Tab) (w : Nat → Int) (a b : Int) : Int := if cpc w a 1 10 then (if b = -1 then (seS T a.toNat w).1 else if 0 ≤ b ∧ b < (tG T : Int) then (seS T a.toNat w).2 b.toNat else -1) else -1
theorem x_seating (D : Nat) {s : Mem} (hx : XM s T w) (ht : Tf T) (hw : Wf T w) (hc : SeC s T w) (a b : Int) : ∃ s1, f_X_seating (D + 8) a b s = some (sSeating T w a b, s1) ∧ Fr PSg s s1 ∧ SeC s1 T w := by
  have hg := ht.2.2.1
  unfold sSeating
  rw [e_X_seating, x_can (D + 5) hx ht hw a (by omega) (by omega), Option.bind_some]
  simp only []
  by_cases hcp : cpc w a 1 10
  · obtain ⟨n, rfl⟩ := Int.eq_ofNat_of_zero_le (show 0 ≤ a by have := hcp.1; omega)
    have h1 := hcp.1
    have h2 := hcp.2
    obtain ⟨s1, e1, f1, c1, c2, c3⟩ := x_seekSeating D (n := n) hx ht hw (by omega) (by omega) (by omega) hc
    rw [if_pos hcp, if_pos hcp, if_neg (by omega), Int.toNat_natCast]
    by_cases b1 : b = -1
    · rw [if_pos b1, if_pos b1, e_X_seating_26, e1, Option.bind_some]
      simp only []
      rw [if_pos b1, c1]
      exact ⟨s1, rfl, f1, c3⟩
    · rw [if_neg b1, if_neg b1, x_isG (D + 6) hx ht, Option.bind_some]
      simp only []
      by_cases b2 : 0 ≤ b ∧ b < (tG T : Int)
      · obtain ⟨k, rfl⟩ := Int.eq_ofNat_of_zero_le b2.1
        rw [if_pos b2, if_neg (by omega), if_pos b2, e_X_seating_26, e1, Option.bind_some]
        simp only []
        rw [if_neg b1, inB_n (by omega), Int.toNat_natCast, c2 k (by omega)]
        exact ⟨s1, rfl, f1, c3⟩
      · rw [if_neg b2, if_pos rfl, if_neg b2]
        exact ⟨s, rfl, Fr.rf, hc⟩
  · rw [if_neg hcp, if_neg hcp, if_pos rfl]
    exact ⟨s, rfl, Fr.rf, hc⟩
end XSEAT
