/-! the reference: who bursts, hoops, change -/
theorem bits_tab : ∀ a : Fin 1024, a.val ≠ 0 → (a.val &&& (a.val - 1)) < a.val ∧ pcn 10 (a.val &&& (a.val - 1)) + 1 = pcn 10 a.val := by decide +kernel
theorem m_bits4 (D : Nat) (s : Mem) : ∀ (a c : Nat), a < 1024 → c + pcn 10 a < 1000 → L_M_bits_4 D (c : Int) (a : Int) s = some (((c + pcn 10 a : Nat) : Int), s) := by
  intro a
  induction a using Nat.strongRecOn with
  | _ a ih =>
    intro c ha hc
    rw [e_M_bits_4]
    by_cases h : a = 0
    · subst h
      rw [if_pos (by omega), show pcn 10 0 = 0 from rfl, Nat.add_zero]
    · obtain ⟨h1, h2⟩ := bits_tab ⟨a, ha⟩ h
      rw [if_neg (by omega), w32_s (by omega), show w32 ((a : Int) - 1) = ((a - 1 : Nat) : Int) by rw [w32_i (by omega) (by omega)]; omega, iAnd_nat (by omega) (by omega)]
      simp only [] at h1 h2
      rw [ih _ h1 (c + 1) (by omega) (by omega), ← h2]
      congr 2
      omega
theorem m_bits (D : Nat) (s : Mem) {a : Nat} (ha : a < 1024) : f_M_bits (D + 1) (a : Int) s = some (((pcn 10 a : Nat) : Int), s) := by
  rw [e_M_bits]
  have hb : ∀ a : Fin 1024, pcn 10 a.val ≤ 10 := by decide +kernel
  have hb2 := hb ⟨a, ha⟩
  simp only [] at hb2
  have := m_bits4 D s a 0 ha (by omega)
  rw [Nat.zero_add] at this
  exact this
section MPLAN2
variable {T : Tab} {w w0 : Nat → Int}
theorem m_bursts19 (D : Nat) (ht : Tf T) {k : Nat} (hk : k < tG T) {w0 : Nat → Int} : ∀ (j n : Nat) (w : Nat → Int) (s : Mem) (bs : Nat), n + j = 60 → Wf T w → w 0 ≤ 999 → MT s T → MW s w → MA s w0 → rI s 84 57 = 1 → rI s 84 49 = 1 → rI s 84 59 = (bs : Int) → bs < 128 → ¬ bs / 2 ^ k % 2 = 1 → ∃ s1, L_M_bursts_19 (D + 10) (k : Int) (-1) (n : Int) s = some (fbu T k j n w, s1) ∧ Fr PQ s s1 ∧ MW s1 w0 ∧ rI s1 84 53 = -1 ∧ rI s1 84 57 = 0 := by
  intro j
  induction j with
  | zero =>
    intro n w s bs hn hf h9 hm hw ha h57 h49 h59 hbs hbit
    obtain ⟨s3, e3, f3, m3, h53, g57⟩ := m_back (D + 8) (T := T) (w := w) (w0 := w0) ⟨hm, hw, ha, h57, h49, bs, h59, hbs⟩
    rw [e_M_bursts_19, if_neg (by omega), e3, Option.bind_some]
    exact ⟨s3, rfl, f3.mo Pb_Q, m3, h53, g57⟩
  | succ j ih =>
    intro n w s bs hn hf h9 hm hw ha h57 h49 h59 hbs hbit
    have hg := ht.2.2.1
    unfold fbu
    rw [e_M_bursts_19, if_pos (by omega), hw 0 (by omega)]
    by_cases h : w 0 < 999
    · obtain ⟨s1, b1, e1, f1, hw1, -, g58, g59, gb, g6⟩ := m_minute D (th := true) (K := []) hm hw hf ht (Or.inl ⟨rfl, h57⟩) h59 hbs
      have hl := mnt_len (T := T) (w := w)
      have hp : ∀ a i, PMm true a i → (a ≠ 84 ∨ (i ≠ 49 ∧ i ≠ 57)) ∧ a ≠ 123 := fun a i q => by
        rcases q with q | q | q | q <;> omega
      have ha1 : MA s1 w0 := ha.fr f1 (fun a i q => (hp a i q).2)
      have k57 : rI s1 84 57 = 1 := (f1.i (fun q => by have := (hp _ _ q).1; omega)).trans h57
      have k49 : rI s1 84 49 = 1 := (f1.i (fun q => by have := (hp _ _ q).1; omega)).trans h49
      rw [if_pos h, if_pos h, if_pos rfl, e1, Option.bind_some]
      simp only []
      rw [g59, bit_n (by omega) (by omega), w32_s (by omega)]
      have g6k := g6 k (by omega)
      cases hb : bin1 k (mnt T w).2
      · have hnb : ¬ b1 / 2 ^ k % 2 = 1 := fun q => by
          rcases g6k.mp q with z | z
          · exact hbit z
          · rw [hb] at z; cases z
        rw [if_neg (by omega)]
        simp only [Bool.false_eq_true, if_false]
        obtain ⟨s2, e2, f2, rest⟩ := ih (n + 1) (mnt T w).1 s1 b1 (by omega) (mnt_w hf (by omega)) (by rw [mnt_0 hf]; omega) (hm.fr f1 PMm_T) hw1 ha1 k57 k49 g59 gb hnb
        exact ⟨s2, e2, (f1.mo PMm_Q).tr f2, rest⟩
      · rw [if_pos (by have := g6k.mpr (Or.inr hb); omega)]
        simp only [if_true]
        -- found: the loop's end
        obtain ⟨s3, e3, f3, m3, h53, g57⟩ := m_back (D + 8) (T := T) (w := (mnt T w).1) (w0 := w0) ⟨hm.fr f1 PMm_T, hw1, ha1, k57, k49, b1, g59, gb⟩
        have last : L_M_bursts_19 (D + 10) (k : Int) (n : Int) ((n + 1 : Nat) : Int) s1 = some ((n : Int), s3) := by
          rw [e_M_bursts_19, if_neg (show ¬ (n : Int) = -1 by omega), show f_M_takesBack (D + 10) s1 = some (0, s3) from e3]
          split
          · split <;> rfl
          · rfl
        rw [last]
        exact ⟨s3, rfl, (f1.mo PMm_Q).tr (f3.mo Pb_Q), m3, h53, g57⟩
    · obtain ⟨s3, e3, f3, m3, h53, g57⟩ := m_back (D + 8) (T := T) (w := w) (w0 := w0) ⟨hm, hw, ha, h57, h49, bs, h59, hbs⟩
      rw [if_neg h, if_neg h, e3, Option.bind_some]
      exact ⟨s3, rfl, f3.mo Pb_Q, m3, h53, g57⟩
end MPLAN2
