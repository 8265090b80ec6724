/-! calls: what is only read -/
section OPQ
theorem x_isG0 (D : Nat) {s : Mem} (h : rI s (rQ s 0 2) 2 = 0) (a : Int) : f_X_isGuest (D + 1) a s = some (0, s) := by
  rw [e_X_isGuest]
  split
  · rfl
  · rw [h, if_neg (by omega)]
theorem x_isS0 (D : Nat) {s : Mem} (h : rI s (rQ s 0 2) 1 = 0) (a : Int) : f_X_isSeat (D + 1) a s = some (0, s) := by
  rw [e_X_isSeat]
  split
  · rfl
  · rw [h, if_neg (by omega)]
theorem x_can0 (D : Nat) {s : Mem} (h : rI s (rQ s 0 2) 1 = 0) (a b c : Int) : f_X_canCome (D + 2) a b c s = some (0, s) := by
  rw [e_X_canCome, e_X_hasTable, h, if_neg (by decide), Option.bind_some]
  exact if_pos rfl
theorem w0m : w32 (0 - 1) = -1 := by decide
theorem m_isG0 (D : Nat) {s : Mem} (h : rI s 114 4 = 0) (a : Int) : f_M_isGuest (D + 2) a s = some (0, s) := by
  rw [e_M_isGuest, e_M_guestMany, Option.bind_some]
  simp only []
  rw [h, w0m, m_isIn, if_neg (by omega), Option.bind_some]
  exact if_pos (Or.inl rfl)
theorem m_isS0 (D : Nat) {s : Mem} (h : rI s 114 3 = 0) (a : Int) : f_M_isSeat (D + 2) a s = some (0, s) := by
  rw [e_M_isSeat, e_M_seatMany, Option.bind_some]
  simp only []
  rw [h, w0m, m_isIn, if_neg (by omega), Option.bind_some]
  exact if_pos (Or.inl rfl)
theorem m_can0 (D : Nat) {s : Mem} (h : rI s 84 49 = 0) (a b c : Int) : f_M_isAhead (D + 1) a b c s = some (0, s) := by
  rw [e_M_isAhead, if_pos h]
theorem bind0 {f : Mem → Rs} {g : Int × Mem → Rs} {s : Mem} (h : f s = some (0, s)) : (f s).bind g = g (0, s) := by rw [h, Option.bind_some]
theorem KX0 {s : Mem} {nx : Nat} (h : XZ s nx) : KX s [] := ⟨0, by decide, rfl, h.2.2.1, fun i hi => absurd hi (by omega)⟩
theorem MK0 {s : Mem} {nx : Nat} (h : MZ s nx) : MK s [] := ⟨0, by decide, rfl, h.2.1 24 (by decide), fun i hi => absurd hi (by omega)⟩
theorem o_kept (D : Nat) (a b : Int) : Op (f_X_kept (D + 2) a b) (f_M_kept (D + 2) a b) := fun s h => by
  obtain ⟨-, hT⟩ := id h
  have hk : ∃ K, KX s K ∧ MK s K := by
    rcases hT with ⟨nx, h1, h2⟩ | ⟨T, w, K, hc, hf, nx, U, nm, to, -, h2, -, h4⟩
    · exact ⟨[], KX0 h1, MK0 h2⟩
    · exact ⟨K, h2.2.1, h4.1⟩
  obtain ⟨K, k1, k2⟩ := hk
  exact op_same h (x_kept (D + 1) k1 a b) (m_kept D k2 a b)
theorem o_guest (D : Nat) (a b : Int) : Op (f_X_guest (D + 3) a b) (f_M_guest (D + 3) a b) := fun s h => by
  obtain ⟨-, hT⟩ := id h
  rcases hT with ⟨nx, h1, h2⟩ | ⟨T, w, K, hc, hf, nx, U, nm, to, ⟨⟨ht, hw, -, -⟩, -⟩, h2, h3, h4⟩
  · refine op_same (v := -1) h ?_ ?_
    · rw [e_X_guest, x_isG0 (D + 1) h1.1.2, Option.bind_some]
      exact if_pos rfl
    · rw [e_M_guest, m_isG0 D h2.1.2.2, Option.bind_some]
      exact if_pos rfl
  · exact op_same h (x_guest (D + 1) h2.1 ht a b) (m_guest D h3 ht a b)
theorem o_seat (D : Nat) (a b : Int) : Op (f_X_seat (D + 6) a b) (f_M_seat (D + 6) a b) := fun s h => by
  obtain ⟨-, hT⟩ := id h
  rcases hT with ⟨nx, h1, h2⟩ | ⟨T, w, K, hc, hf, nx, U, nm, to, ⟨⟨ht, hw, -, -⟩, -⟩, h2, h3, h4⟩
  · refine op_same (v := -1) h ?_ ?_
    · rw [e_X_seat, x_isS0 (D + 4) h1.1.1, Option.bind_some]
      exact if_pos rfl
    · rw [e_M_seat, m_isS0 (D + 3) h2.1.2.1, Option.bind_some]
      exact if_pos rfl
  · exact op_same h (x_seat (D + 4) h2.1 ht hw a b) (m_seat D h3 ht hw a b)
theorem sh10 : iShl 1 0 = 1 := by decide
theorem o_tun (D : Nat) (a : Int) : Op (f_X_tun (D + 3) a) (f_M_tun (D + 3) a) := fun s h => by
  obtain ⟨-, hT⟩ := id h
  rcases hT with ⟨nx, h1, h2⟩ | ⟨T, w, K, hc, hf, nx, U, nm, to, ⟨⟨ht, hw, -, -⟩, -⟩, h2, h3, h4⟩
  · refine op_same (v := -1) h ?_ ?_
    · rw [e_X_tun, e_X_tun_8, h1.1.2, sh10]
      split
      · exact if_neg (by decide)
      · rfl
    · rw [e_M_tun, m_isIn, Option.bind_some]
      simp only []
      by_cases c : 1 ≤ a ∧ a ≤ 693
      · rw [if_pos c, if_neg one_nz, e_M_tun_18, e_M_guestMany, Option.bind_some]
        simp only []
        rw [h2.1.2.2, sh10]
        exact if_neg (by decide)
      · rw [if_neg c]
        exact if_pos rfl
  · exact op_same h (x_tun (D + 1) h2.1 ht hw a) (m_tun D h3 ht hw a)
theorem w20 : w32 (2 * 0) = 0 := by decide
theorem o_row (D : Nat) : Op (f_X_row (D + 4)) (f_M_row (D + 4)) := fun s h => by
  obtain ⟨-, hT⟩ := id h
  rcases hT with ⟨nx, h1, h2⟩ | ⟨T, w, K, hc, hf, nx, U, nm, to, ⟨⟨ht, hw, -, -⟩, -⟩, h2, h3, h4⟩
  · refine op_same (v := 0) h ?_ ?_
    · rw [e_X_row, e_X_row_6, h1.1.1, w20, if_neg (by decide), e_Math_min, if_neg (by decide), Option.bind_some]
    · rw [e_M_row, e_M_row_4, e_M_seatMany, Option.bind_some]
      simp only []
      rw [h2.1.2.1]
      exact if_neg (by decide)
  · exact op_same h (x_row (D + 2) h2.1 ht) (m_row D h3 ht)
theorem sw0_tab : ∀ e : Fin 7, iAnd (iShr 0 (e.val : Int)) 1 = 0 := by decide +kernel
theorem x_sw0 (D : Nat) (s : Mem) : ∀ n e : Nat, e + n = 7 → L_Rg_swellsOf_4 D 28 0 0 (e : Int) s = some (0, s)
  | 0, e, he => by
    rw [e_Rg_swellsOf_4, if_neg (by omega)]
  | n + 1, e, he => by
    have e1 : iAnd (iShr 0 (e : Int)) 1 = 0 := sw0_tab ⟨e, by omega⟩
    have e2 : w32 (0 + w32 (0 * rI s (28 + 2) ((e : Int).toNat))) = 0 := by rw [Int.zero_mul]; decide
    rw [e_Rg_swellsOf_4, if_pos (by omega), inB_n (by omega), e1, e2, w32_s (by omega)]
    exact x_sw0 D s n (e + 1) (by omega)
theorem m_hm0 (D : Nat) {s : Mem} (h : ∀ i, i < 25 → rI s 122 i = 0) : ∀ n e : Nat, e + n = 9 → L_M_hoopMany_4 D 0 (e : Int) s = some (0, s)
  | 0, e, he => by
    rw [e_M_hoopMany_4, if_neg (by omega)]
  | n + 1, e, he => by
    have e1 : w32 (1 + (e : Int)) = ((1 + e : Nat) : Int) := by rw [w32_i (by omega) (by omega)]; omega
    have e2 : w32 (0 + 0) = 0 := by decide
    rw [e_M_hoopMany_4, if_pos (by omega), e1, inB_n (by omega), Int.toNat_natCast, h _ (by omega), e2, w32_s (by omega)]
    exact m_hm0 D h n (e + 1) (by omega)
theorem o_has (D : Nat) (a : Int) : Op (f_X_has (D + 3) a) (f_M_has (D + 3) a) := fun s h => by
  obtain ⟨-, hT⟩ := id h
  rcases hT with ⟨nx, h1, h2⟩ | ⟨T, w, K, hc, hf, nx, U, nm, to, ⟨⟨ht, hw, -, -⟩, -⟩, h2, h3, h4⟩
  · obtain ⟨⟨a1, a2⟩, ⟨a3, a4⟩, a5, a6, a7, -, a8⟩ := h1
    obtain ⟨⟨-, b1, b2⟩, b3, b4, -, b5⟩ := h2
    have sh : w32 (iShl 1 0 - 1) = 0 := by decide
    have sw : f_Rg_swellsOf (D + 2) 28 0 s = some (0, s) := (e_Rg_swellsOf (D + 1) 28 0 s).trans (x_sw0 (D + 1) s 7 0 (by omega))
    have hm : f_M_hoopMany (D + 2) s = some (0, s) := (e_M_hoopMany (D + 1) s).trans (m_hm0 (D + 1) b3 9 0 (by omega))
    have bc : f_Integer_bitCount (D + 2) 0 s = some (0, s) := x_bc (D + 1) (a := 0) (by decide) s
    have sa : f_M_swellAll (D + 2) s = some (0, s) := by
      rw [e_M_swellAll, e_M_swellAll_4, e_M_guestMany, Option.bind_some]
      simp only []
      rw [b2]
      exact if_neg (by decide)
    refine op_same (v := if a = 0 then 0 else if a = 1 then 0 else if a = 2 then 0 else if a = 3 then 0 else if a = 4 then 0 else if a = 5 then 0 else if a = 6 then 0 else if a = 7 then 0 else -1) h ?_ ?_
    · rw [e_X_has, a1, a2, a4, a3, a5, a6, a8, sh, sw, bc, Option.bind_some]
      simp only []
      repeat' split
      all_goals rfl
    · rw [e_M_has, e_M_seatMany, e_M_guestMany, hm, sa, b3 0 (by decide), b3 24 (by decide), b4, b5, b1, b2, Option.bind_some]
      simp only []
      repeat' split
      all_goals rfl
  · exact op_same h (x_hasq (D + 1) h2.1 ht hw h2.2.1 h2.2.2.1.1 h2.2.2.2.1.2.2.1 a) (m_hasq D h3 ht hw h4.1 h4.2.1.1 h4.2.2.1.2.2.1 a)
/-! letters -/
theorem nmR_b : ∀ {r : List Int}, (∀ x ∈ r, 1 ≤ x ∧ x ≤ 26) → nmR r < 27 ^ r.length
  | [], _ => by show (0 : Int) < 27 ^ 0; decide
  | x :: r, h => by
    have h1 := h x List.mem_cons_self
    have h2 := nmR_b (r := r) (fun y hy => h y (List.mem_cons_of_mem _ hy))
    show x + 27 * nmR r < 27 ^ (r.length + 1)
    rw [Int.pow_succ]
    omega
theorem nmR_6 {r : List Int} (h : ∀ x ∈ r, 1 ≤ x ∧ x ≤ 26) (hl : r.length ≤ 6) : 0 ≤ nmR r ∧ nmR r < 387420489 := by
  refine ⟨nmR_0 h, Int.lt_of_lt_of_le (nmR_b h) ?_⟩
  have hp : ∀ n : Fin 7, (27 : Int) ^ n.val ≤ 387420489 := by decide
  exact hp ⟨r.length, by omega⟩
theorem dv27 {x m : Int} (h : 1 ≤ x ∧ x ≤ 26) (hm : 0 ≤ m) : Int.tdiv (x + 27 * m) 27 = m := by
  rw [Int.tdiv_eq_ediv_of_nonneg (by omega)]
  omega
theorem md27 {x m : Int} (h : 1 ≤ x ∧ x ≤ 26) (hm : 0 ≤ m) : Int.tmod (x + 27 * m) 27 = x := by
  rw [Int.tmod_eq_emod_of_nonneg (by omega)]
  omega
theorem m_let74 (D : Nat) {k : Nat} (s : Mem) : ∀ r : List Int, (∀ x ∈ r, 1 ≤ x ∧ x ≤ 26) → r.length ≤ 6 → k < r.length → L_M_letter_74 D (k : Int) (nmR r) (((r.length - 1 : Nat)) : Int) s = some (r.reverse.getD k 0, s)
  | [], _, _, hk => absurd hk (Nat.not_lt_zero _)
  | x :: r, h, hl, hk => by
    have hb := nmR_6 h hl
    have h1 := h x List.mem_cons_self
    have hr : ∀ y ∈ r, 1 ≤ y ∧ y ≤ 26 := fun y hy => h y (List.mem_cons_of_mem _ hy)
    have h0 := nmR_0 hr
    have hl2 : r.length + 1 ≤ 6 := hl
    have hk2 : k < r.length + 1 := hk
    have eN : nmR (x :: r) = x + 27 * nmR r := rfl
    have eL : (x :: r).length - 1 = r.length := rfl
    rw [e_M_letter_74, eL, List.reverse_cons]
    by_cases c : k < r.length
    · have e1 : w32 ((r.length : Int) + (-1)) = ((r.length - 1 : Nat) : Int) := by rw [w32_i (by omega) (by omega)]; omega
      rw [if_pos (by omega), lDiv_n (by omega) (by omega), eN, dv27 h1 h0, e1, m_let74 D s r hr (by omega) c]
      simp [List.getD, List.getElem?_append_left, c]
    · have ek : k = r.length := by omega
      have e1 : w32 x = x := by rw [w32_i (by omega) (by omega)]
      rw [if_neg (by omega), lRem_n (by omega) (by omega), eN, md27 h1 h0, e1, ek]
      simp [List.getD]
theorem m_let39 (D : Nat) {k : Nat} {b : Int} (s : Mem) : ∀ (r : List Int) (c : Nat), (∀ x ∈ r, 1 ≤ x ∧ x ≤ 26) → r.length + c ≤ 6 → L_M_letter_39 D (k : Int) b (c : Int) (nmR r) s = if k < c + r.length then L_M_letter_74 D (k : Int) b ((c + r.length - 1 : Nat) : Int) s else some (0, s)
  | [], c, _, hl => by
    have e0 : nmR [] = 0 := rfl
    rw [e_M_letter_39, e0, if_neg (by decide)]
    have el : c + ([] : List Int).length = c := rfl
    rw [el]
    by_cases h : k < c
    · have e1 : w32 ((c : Int) - 1) = ((c - 1 : Nat) : Int) := by rw [w32_i (by omega) (by omega)]; omega
      rw [if_pos (by omega), if_pos h, e1]
    · rw [if_neg (by omega), if_neg h]
  | x :: r, c, h, hl => by
    have hl2 : r.length + 1 + c ≤ 6 := hl
    have hb := nmR_6 h (by show r.length + 1 ≤ 6; omega)
    have h1 := h x List.mem_cons_self
    have hr : ∀ y ∈ r, 1 ≤ y ∧ y ≤ 26 := fun y hy => h y (List.mem_cons_of_mem _ hy)
    have h0 := nmR_0 hr
    have eN : nmR (x :: r) = x + 27 * nmR r := rfl
    have eL : c + (x :: r).length = c + 1 + r.length := by show c + (r.length + 1) = _; omega
    have eg : 0 < lCmp (nmR (x :: r)) 0 := by rw [lC_gt, eN]; omega
    rw [e_M_letter_39, if_pos eg, lDiv_n (by omega) (by omega), eL, eN, dv27 h1 h0, w32_s (by omega)]
    exact m_let39 D s r (c + 1) hr (by omega)
theorem o_letter (D : Nat) (a b : Int) : Op (f_X_letter (D + 3) a b) (f_M_letter (D + 3) a b) := fun s h => by
  obtain ⟨-, hT⟩ := id h
  rcases hT with ⟨nx, h1, h2⟩ | ⟨T, w, K, hc, hf, nx, U, nm, to, ⟨⟨ht, hw, -, -⟩, -, -, hN⟩, h2, h3, h4⟩
  · refine op_same (v := -1) h ?_ ?_
    · rw [e_X_letter, x_isG0 (D + 1) h1.1.2, Option.bind_some]
      exact if_pos rfl
    · rw [e_M_letter, m_isG0 D h2.1.2.2, Option.bind_some]
      exact if_pos rfl
  · have x := x_isG (D + 1) h2.1 ht a
    have m := m_isG D h3.1 ht.2.2.1 a
    by_cases c : 0 ≤ a ∧ a < (tG T : Int)
    · rw [if_pos c] at x m
      obtain ⟨g, rfl⟩ := Int.eq_ofNat_of_zero_le c.1
      have hg : g < tG T := by omega
      have hg7 := ht.2.2.1
      obtain ⟨n1, n2, n3⟩ := hN g hg
      by_cases cb : 0 ≤ b ∧ b ≤ 5
      · obtain ⟨k, rfl⟩ := Int.eq_ofNat_of_zero_le cb.1
        have e7 : w32 (7 + (g : Int)) = ((7 + g : Nat) : Int) := by rw [w32_i (by omega) (by omega)]; omega
        refine op_same (v := (nm g).getD k 0) h ?_ ?_
        · rw [e_X_letter, x, Option.bind_some]
          simp only []
          rw [if_neg one_nz, if_neg (by omega), if_pos (by omega), w6 (by omega) (by omega), inB_n (by omega), Int.toNat_natCast, h2.2.2.2.2.2.1 g hg k (by omega)]
        · rw [e_M_letter, m, Option.bind_some]
          simp only []
          rw [if_neg one_nz, m_isIn, if_pos cb, Option.bind_some]
          simp only []
          have r3 : ∀ x ∈ (nm g).reverse, 1 ≤ x ∧ x ≤ 26 := fun x hx => n3 x (List.mem_reverse.mp hx)
          have r2 : (nm g).reverse.length = (nm g).length := List.length_reverse
          have l39 := m_let39 (D + 2) (k := k) (b := nmB (nm g)) s (nm g).reverse 0 r3 (by omega)
          rw [if_neg one_nz, e7, inB_n (by omega), Int.toNat_natCast, h4.2.2.2.1 g hg]
          refine l39.trans ?_
          by_cases ck : k < (nm g).length
          · have l74 := m_let74 (D + 2) (k := k) s (nm g).reverse r3 (by omega) (by omega)
            rw [if_pos (by omega), Nat.zero_add]
            refine l74.trans ?_
            rw [List.reverse_reverse]
          · rw [if_neg (by omega)]
            simp [List.getD, List.getElem?_eq_none (Nat.le_of_not_lt ck)]
      · refine op_same (v := -1) h ?_ ?_
        · rw [e_X_letter, x, Option.bind_some]
          simp only []
          rw [if_neg one_nz]
          split
          · rfl
          · rw [if_neg (by omega)]
        · rw [e_M_letter, m, Option.bind_some]
          simp only []
          rw [if_neg one_nz, m_isIn, if_neg cb, Option.bind_some]
          exact if_pos rfl
    · rw [if_neg c] at x m
      refine op_same (v := -1) h ?_ ?_
      · rw [e_X_letter, x, Option.bind_some]
        exact if_pos rfl
      · rw [e_M_letter, m, Option.bind_some]
        exact if_pos rfl
end OPQ
