/-! the law's own loop: all calls, one after another -/
section LAW
noncomputable def L_Law (xs : Nat → Int) (L : Nat) (D : Nat) (e : Int) (s : Mem) : Rs := runF true xs L 11 3 c_Law_law (cS true noX 0 D) 18 [(0, vr 23 0 0), (1, vr 0 0 0), (2, vr 10 0 84), (3, vi e)] [] s
set_option maxRecDepth 20000 in
theorem e_Law (xs : Nat → Int) (L : Nat) (D : Nat) (e : Int) (s : Mem) : L_Law xs L D e s = if w32 (L - 6) < e then (some (1, s)) else inB e L (if iAnd (xs (e).toNat) 31 = 0 then (inB (w32 (e + 1)) L (inB (w32 (e + 2)) L (inB (w32 (e + 3)) L (inB (w32 (e + 4)) L (inB (w32 (e + 5)) L ((f_X_feed D (xs (w32 (e + 1)).toNat) (xs (w32 (e + 2)).toNat) (xs (w32 (e + 3)).toNat) (xs (w32 (e + 4)).toNat) (xs (w32 (e + 5)).toNat) s).bind fun p1 => inB (w32 (e + 1)) L (inB (w32 (e + 2)) L (inB (w32 (e + 3)) L (inB (w32 (e + 4)) L (inB (w32 (e + 5)) L ((f_M_feed D (xs (w32 (e + 1)).toNat) (xs (w32 (e + 2)).toNat) (xs (w32 (e + 3)).toNat) (xs (w32 (e + 4)).toNat) (xs (w32 (e + 5)).toNat) p1.2).bind fun p2 => if p1.1 = p2.1 then (L_Law xs L D (w32 (e + 6)) p2.2) else some (0, p2.2)))))))))))) else if iAnd (xs (e).toNat) 31 = 1 then (inB (w32 (e + 1)) L ((f_X_end D (xs (w32 (e + 1)).toNat) s).bind fun p1 => inB (w32 (e + 1)) L ((f_M_end D (xs (w32 (e + 1)).toNat) p1.2).bind fun p2 => if p1.1 = p2.1 then (L_Law xs L D (w32 (e + 6)) p2.2) else some (0, p2.2)))) else if iAnd (xs (e).toNat) 31 = 2 then ((f_X_table D s).bind fun p1 => (f_M_table D p1.2).bind fun p2 => if p1.1 = p2.1 then (L_Law xs L D (w32 (e + 6)) p2.2) else some (0, p2.2)) else if iAnd (xs (e).toNat) 31 = 3 then (inB (w32 (e + 1)) L ((f_X_fault D (xs (w32 (e + 1)).toNat) s).bind fun p1 => inB (w32 (e + 1)) L ((f_M_fault D (xs (w32 (e + 1)).toNat) p1.2).bind fun p2 => if p1.1 = p2.1 then (L_Law xs L D (w32 (e + 6)) p2.2) else some (0, p2.2)))) else if iAnd (xs (e).toNat) 31 = 4 then (inB (w32 (e + 1)) L ((f_X_has D (xs (w32 (e + 1)).toNat) s).bind fun p1 => inB (w32 (e + 1)) L ((f_M_has D (xs (w32 (e + 1)).toNat) p1.2).bind fun p2 => if p1.1 = p2.1 then (L_Law xs L D (w32 (e + 6)) p2.2) else some (0, p2.2)))) else if iAnd (xs (e).toNat) 31 = 5 then (inB (w32 (e + 1)) L (inB (w32 (e + 2)) L ((f_X_letter D (xs (w32 (e + 1)).toNat) (xs (w32 (e + 2)).toNat) s).bind fun p1 => inB (w32 (e + 1)) L (inB (w32 (e + 2)) L ((f_M_letter D (xs (w32 (e + 1)).toNat) (xs (w32 (e + 2)).toNat) p1.2).bind fun p2 => if p1.1 = p2.1 then (L_Law xs L D (w32 (e + 6)) p2.2) else some (0, p2.2)))))) else if iAnd (xs (e).toNat) 31 = 6 then (inB (w32 (e + 1)) L (inB (w32 (e + 2)) L ((f_X_guest D (xs (w32 (e + 1)).toNat) (xs (w32 (e + 2)).toNat) s).bind fun p1 => inB (w32 (e + 1)) L (inB (w32 (e + 2)) L ((f_M_guest D (xs (w32 (e + 1)).toNat) (xs (w32 (e + 2)).toNat) p1.2).bind fun p2 => if p1.1 = p2.1 then (L_Law xs L D (w32 (e + 6)) p2.2) else some (0, p2.2)))))) else if iAnd (xs (e).toNat) 31 = 7 then (inB (w32 (e + 1)) L (inB (w32 (e + 2)) L ((f_X_seat D (xs (w32 (e + 1)).toNat) (xs (w32 (e + 2)).toNat) s).bind fun p1 => inB (w32 (e + 1)) L (inB (w32 (e + 2)) L ((f_M_seat D (xs (w32 (e + 1)).toNat) (xs (w32 (e + 2)).toNat) p1.2).bind fun p2 => if p1.1 = p2.1 then (L_Law xs L D (w32 (e + 6)) p2.2) else some (0, p2.2)))))) else if iAnd (xs (e).toNat) 31 = 8 then (inB (w32 (e + 1)) L (inB (w32 (e + 2)) L ((f_X_kept D (xs (w32 (e + 1)).toNat) (xs (w32 (e + 2)).toNat) s).bind fun p1 => inB (w32 (e + 1)) L (inB (w32 (e + 2)) L ((f_M_kept D (xs (w32 (e + 1)).toNat) (xs (w32 (e + 2)).toNat) p1.2).bind fun p2 => if p1.1 = p2.1 then (L_Law xs L D (w32 (e + 6)) p2.2) else some (0, p2.2)))))) else if iAnd (xs (e).toNat) 31 = 9 then (inB (w32 (e + 1)) L (inB (w32 (e + 2)) L ((f_X_later D (xs (w32 (e + 1)).toNat) (xs (w32 (e + 2)).toNat) s).bind fun p1 => inB (w32 (e + 1)) L (inB (w32 (e + 2)) L ((f_M_later D (xs (w32 (e + 1)).toNat) (xs (w32 (e + 2)).toNat) p1.2).bind fun p2 => if p1.1 = p2.1 then (L_Law xs L D (w32 (e + 6)) p2.2) else some (0, p2.2)))))) else if iAnd (xs (e).toNat) 31 = 10 then (inB (w32 (e + 1)) L ((f_X_bursts D (xs (w32 (e + 1)).toNat) s).bind fun p1 => inB (w32 (e + 1)) L ((f_M_bursts D (xs (w32 (e + 1)).toNat) p1.2).bind fun p2 => if p1.1 = p2.1 then (L_Law xs L D (w32 (e + 6)) p2.2) else some (0, p2.2)))) else if iAnd (xs (e).toNat) 31 = 11 then (inB (w32 (e + 1)) L ((f_X_burst D (xs (w32 (e + 1)).toNat) s).bind fun p1 => inB (w32 (e + 1)) L ((f_M_burst D (xs (w32 (e + 1)).toNat) p1.2).bind fun p2 => if p1.1 = p2.1 then (L_Law xs L D (w32 (e + 6)) p2.2) else some (0, p2.2)))) else if iAnd (xs (e).toNat) 31 = 12 then (inB (w32 (e + 1)) L ((f_X_hoops D (xs (w32 (e + 1)).toNat) s).bind fun p1 => inB (w32 (e + 1)) L ((f_M_hoops D (xs (w32 (e + 1)).toNat) p1.2).bind fun p2 => if p1.1 = p2.1 then (L_Law xs L D (w32 (e + 6)) p2.2) else some (0, p2.2)))) else if iAnd (xs (e).toNat) 31 = 13 then (inB (w32 (e + 1)) L (inB (w32 (e + 2)) L ((f_X_change D (xs (w32 (e + 1)).toNat) (xs (w32 (e + 2)).toNat) s).bind fun p1 => inB (w32 (e + 1)) L (inB (w32 (e + 2)) L ((f_M_change D (xs (w32 (e + 1)).toNat) (xs (w32 (e + 2)).toNat) p1.2).bind fun p2 => if p1.1 = p2.1 then (L_Law xs L D (w32 (e + 6)) p2.2) else some (0, p2.2)))))) else if iAnd (xs (e).toNat) 31 = 14 then (inB (w32 (e + 1)) L (inB (w32 (e + 2)) L ((f_X_seating D (xs (w32 (e + 1)).toNat) (xs (w32 (e + 2)).toNat) s).bind fun p1 => inB (w32 (e + 1)) L (inB (w32 (e + 2)) L ((f_M_seating D (xs (w32 (e + 1)).toNat) (xs (w32 (e + 2)).toNat) p1.2).bind fun p2 => if p1.1 = p2.1 then (L_Law xs L D (w32 (e + 6)) p2.2) else some (0, p2.2)))))) else if iAnd (xs (e).toNat) 31 = 15 then (inB (w32 (e + 1)) L ((f_X_tun D (xs (w32 (e + 1)).toNat) s).bind fun p1 => inB (w32 (e + 1)) L ((f_M_tun D (xs (w32 (e + 1)).toNat) p1.2).bind fun p2 => if p1.1 = p2.1 then (L_Law xs L D (w32 (e + 6)) p2.2) else some (0, p2.2)))) else if iAnd (xs (e).toNat) 31 = 16 then ((f_X_row D s).bind fun p1 => (f_M_row D p1.2).bind fun p2 => if p1.1 = p2.1 then (L_Law xs L D (w32 (e + 6)) p2.2) else some (0, p2.2)) else if iAnd (xs (e).toNat) 31 = 17 then ((f_X_hear D s).bind fun p1 => (f_M_hear D p1.2).bind fun p2 => if p1.1 = p2.1 then (L_Law xs L D (w32 (e + 6)) p2.2) else some (0, p2.2)) else if iAnd (xs (e).toNat) 31 = 18 then (inB (w32 (e + 1)) L ((f_X_wets D (xs (w32 (e + 1)).toNat) s).bind fun p1 => inB (w32 (e + 1)) L ((f_M_wets D (xs (w32 (e + 1)).toNat) p1.2).bind fun p2 => if p1.1 = p2.1 then (L_Law xs L D (w32 (e + 6)) p2.2) else some (0, p2.2)))) else if iAnd (xs (e).toNat) 31 = 19 then (inB (w32 (e + 1)) L (inB (w32 (e + 2)) L ((f_X_tells D (xs (w32 (e + 1)).toNat) (xs (w32 (e + 2)).toNat) s).bind fun p1 => inB (w32 (e + 1)) L (inB (w32 (e + 2)) L ((f_M_tells D (xs (w32 (e + 1)).toNat) (xs (w32 (e + 2)).toNat) p1.2).bind fun p2 => if p1.1 = p2.1 then (L_Law xs L D (w32 (e + 6)) p2.2) else some (0, p2.2)))))) else if iAnd (xs (e).toNat) 31 = 20 then (inB (w32 (e + 1)) L (inB (w32 (e + 2)) L ((f_X_drive D (xs (w32 (e + 1)).toNat) (xs (w32 (e + 2)).toNat) s).bind fun p1 => inB (w32 (e + 1)) L (inB (w32 (e + 2)) L ((f_M_drive D (xs (w32 (e + 1)).toNat) (xs (w32 (e + 2)).toNat) p1.2).bind fun p2 => if p1.1 = p2.1 then (L_Law xs L D (w32 (e + 6)) p2.2) else some (0, p2.2)))))) else if iAnd (xs (e).toNat) 31 = 21 then (inB (w32 (e + 1)) L (inB (w32 (e + 2)) L ((f_X_sit D (xs (w32 (e + 1)).toNat) (xs (w32 (e + 2)).toNat) s).bind fun p1 => inB (w32 (e + 1)) L (inB (w32 (e + 2)) L ((f_M_sit D (xs (w32 (e + 1)).toNat) (xs (w32 (e + 2)).toNat) p1.2).bind fun p2 => if p1.1 = p2.1 then (L_Law xs L D (w32 (e + 6)) p2.2) else some (0, p2.2)))))) else if iAnd (xs (e).toNat) 31 = 22 then (inB (w32 (e + 1)) L (inB (w32 (e + 2)) L ((f_X_say D (xs (w32 (e + 1)).toNat) (xs (w32 (e + 2)).toNat) s).bind fun p1 => inB (w32 (e + 1)) L (inB (w32 (e + 2)) L ((f_M_say D (xs (w32 (e + 1)).toNat) (xs (w32 (e + 2)).toNat) p1.2).bind fun p2 => if p1.1 = p2.1 then (L_Law xs L D (w32 (e + 6)) p2.2) else some (0, p2.2)))))) else if iAnd (xs (e).toNat) 31 = 23 then (inB (w32 (e + 1)) L ((f_X_minutes D (xs (w32 (e + 1)).toNat) s).bind fun p1 => inB (w32 (e + 1)) L ((f_M_minutes D (xs (w32 (e + 1)).toNat) p1.2).bind fun p2 => if p1.1 = p2.1 then (L_Law xs L D (w32 (e + 6)) p2.2) else some (0, p2.2)))) else if iAnd (xs (e).toNat) 31 = 24 then (inB (w32 (e + 1)) L ((f_X_chance D (xs (w32 (e + 1)).toNat) s).bind fun p1 => inB (w32 (e + 1)) L ((f_M_chance D (xs (w32 (e + 1)).toNat) p1.2).bind fun p2 => if p1.1 = p2.1 then (L_Law xs L D (w32 (e + 6)) p2.2) else some (0, p2.2)))) else if iAnd (xs (e).toNat) 31 = 25 then ((f_X_undo D s).bind fun p1 => (f_M_undo D p1.2).bind fun p2 => if p1.1 = p2.1 then (L_Law xs L D (w32 (e + 6)) p2.2) else some (0, p2.2)) else if iAnd (xs (e).toNat) 31 = 26 then (inB (w32 (e + 1)) L ((f_X_seed D (xs (w32 (e + 1)).toNat) s).bind fun p1 => inB (w32 (e + 1)) L ((f_M_seed D (xs (w32 (e + 1)).toNat) p1.2).bind fun p2 => if p1.1 = p2.1 then (L_Law xs L D (w32 (e + 6)) p2.2) else some (0, p2.2)))) else if iAnd (xs (e).toNat) 31 = 27 then ((f_X_ask D s).bind fun p1 => (f_M_ask D p1.2).bind fun p2 => if lCmp p1.1 p2.1 = 0 then (L_Law xs L D (w32 (e + 6)) p2.2) else some (0, p2.2)) else if iAnd (xs (e).toNat) 31 = 28 then ((f_X_image D s).bind fun p1 => (f_M_image D p1.2).bind fun p2 => if p1.1 = p2.1 then (L_Law xs L D (w32 (e + 6)) p2.2) else some (0, p2.2)) else if iAnd (xs (e).toNat) 31 = 29 then (inB (w32 (e + 1)) L ((f_X_octet D (xs (w32 (e + 1)).toNat) s).bind fun p1 => inB (w32 (e + 1)) L ((f_M_octet D (xs (w32 (e + 1)).toNat) p1.2).bind fun p2 => if p1.1 = p2.1 then (L_Law xs L D (w32 (e + 6)) p2.2) else some (0, p2.2)))) else if iAnd (xs (e).toNat) 31 = 30 then ((f_X_on D s).bind fun p1 => (f_M_on D p1.2).bind fun p2 => if p1.1 = p2.1 then (L_Law xs L D (w32 (e + 6)) p2.2) else some (0, p2.2)) else if iAnd (xs (e).toNat) 31 = 31 then (inB (w32 (e + 1)) L ((f_X_status D (xs (w32 (e + 1)).toNat) s).bind fun p1 => inB (w32 (e + 1)) L ((f_M_status D (xs (w32 (e + 1)).toNat) p1.2).bind fun p2 => if p1.1 = p2.1 then (L_Law xs L D (w32 (e + 6)) p2.2) else some (0, p2.2)))) else L_Law xs L D (w32 (e + 6)) s) := run_tree true xs L 11 3 c_Law_law (cS true noX 0 D) 400 18 [(0, vr 23 0 0), (1, vr 0 0 0), (2, vr 10 0 84), (3, vi e)] [] s
theorem br_go {F G : Mem → Rs} {k : Mem → Rs} {s : Mem} (h : Op F G) (hi : Inv s) (hk : ∀ s2, Inv s2 → ∃ s', k s2 = some (1, s')) : ∃ s', ((F s).bind fun p1 => (G p1.2).bind fun p2 => if p1.1 = p2.1 then k p2.2 else some (0, p2.2)) = some (1, s') := by
  obtain ⟨v, s1, s2, e1, e2, i2⟩ := h s hi
  obtain ⟨s', e3⟩ := hk s2 i2
  refine ⟨s', ?_⟩
  rw [e1, Option.bind_some]
  simp only []
  rw [e2, Option.bind_some]
  simp only []
  rw [if_pos trivial, e3]
theorem br_goL {F G : Mem → Rs} {k : Mem → Rs} {s : Mem} (h : Op F G) (hi : Inv s) (hk : ∀ s2, Inv s2 → ∃ s', k s2 = some (1, s')) : ∃ s', ((F s).bind fun p1 => (G p1.2).bind fun p2 => if lCmp p1.1 p2.1 = 0 then k p2.2 else some (0, p2.2)) = some (1, s') := by
  obtain ⟨v, s1, s2, e1, e2, i2⟩ := h s hi
  obtain ⟨s', e3⟩ := hk s2 i2
  refine ⟨s', ?_⟩
  rw [e1, Option.bind_some]
  simp only []
  rw [e2, Option.bind_some]
  simp only []
  rw [if_pos (lC_eq.mpr rfl), e3]
theorem if_ex {c : Prop} [Decidable c] {a b : Rs} (h1 : ∃ s', a = some (1, s')) (h2 : ∃ s', b = some (1, s')) : ∃ s', (if c then a else b) = some (1, s') := by
  split
  · exact h1
  · exact h2
theorem law_go (d : Nat) {xs : Nat → Int} {L : Nat} (hL : L < 2147483000) (hx : ∀ j, j < L → rng32 (xs j)) : ∀ (n i : Nat) (s : Mem), L ≤ i + n → i < 2147483000 → Inv s → ∃ s', L_Law xs L (d + 60) (i : Int) s = some (1, s')
  | 0, i, s, hn, hi, h => by
    have e6 : w32 ((L : Int) - 6) = (L : Int) - 6 := w32_i (by omega) (by omega)
    rw [e_Law, e6, if_pos (by omega)]
    exact ⟨s, rfl⟩
  | n + 1, i, s, hn, hi, h => by
    have e6 : w32 ((L : Int) - 6) = (L : Int) - 6 := w32_i (by omega) (by omega)
    by_cases c : (L : Int) - 6 < (i : Int)
    · rw [e_Law, e6, if_pos c]
      exact ⟨s, rfl⟩
    · have a1 : w32 ((i : Int) + 1) = ((i + 1 : Nat) : Int) := w32_s (by omega)
      have a2 : w32 ((i : Int) + 2) = ((i + 2 : Nat) : Int) := by rw [w32_i (by omega) (by omega)]; omega
      have a3 : w32 ((i : Int) + 3) = ((i + 3 : Nat) : Int) := by rw [w32_i (by omega) (by omega)]; omega
      have a4 : w32 ((i : Int) + 4) = ((i + 4 : Nat) : Int) := by rw [w32_i (by omega) (by omega)]; omega
      have a5 : w32 ((i : Int) + 5) = ((i + 5 : Nat) : Int) := by rw [w32_i (by omega) (by omega)]; omega
      have a6 : w32 ((i : Int) + 6) = ((i + 6 : Nat) : Int) := by rw [w32_i (by omega) (by omega)]; omega
      have b0 : ∀ t : Rs, inB (i : Int) L t = t := fun t => inB_n (by omega)
      have b1 : ∀ t : Rs, inB ((i + 1 : Nat) : Int) L t = t := fun t => inB_n (by omega)
      have b2 : ∀ t : Rs, inB ((i + 2 : Nat) : Int) L t = t := fun t => inB_n (by omega)
      have b3 : ∀ t : Rs, inB ((i + 3 : Nat) : Int) L t = t := fun t => inB_n (by omega)
      have b4 : ∀ t : Rs, inB ((i + 4 : Nat) : Int) L t = t := fun t => inB_n (by omega)
      have b5 : ∀ t : Rs, inB ((i + 5 : Nat) : Int) L t = t := fun t => inB_n (by omega)
      have r1 : rng32 (xs (i + 1)) := hx _ (by omega)
      have ih : ∀ s2, Inv s2 → ∃ s', L_Law xs L (d + 60) ((i + 6 : Nat) : Int) s2 = some (1, s') := fun s2 h2 => law_go d hL hx n (i + 6) s2 (by omega) (by omega) h2
      rw [e_Law, e6, if_neg c, a1, a2, a3, a4, a5, a6]
      simp only [b0, b1, b2, b3, b4, b5, Int.toNat_natCast]
      refine if_ex (br_go (o_feed (d + 58) (xs (i + 1)) (xs (i + 2)) (xs (i + 3)) (xs (i + 4)) (xs (i + 5))) h ih) ?_
      refine if_ex (br_go (o_end (d + 58) (xs (i + 1))) h ih) ?_
      refine if_ex (br_go (o_table (d + 22)) h ih) ?_
      refine if_ex (br_go (o_fault (d + 59) (xs (i + 1))) h ih) ?_
      refine if_ex (br_go (o_has (d + 57) (xs (i + 1))) h ih) ?_
      refine if_ex (br_go (o_letter (d + 57) (xs (i + 1)) (xs (i + 2))) h ih) ?_
      refine if_ex (br_go (o_guest (d + 57) (xs (i + 1)) (xs (i + 2))) h ih) ?_
      refine if_ex (br_go (o_seat (d + 54) (xs (i + 1)) (xs (i + 2))) h ih) ?_
      refine if_ex (br_go (o_kept (d + 58) (xs (i + 1)) (xs (i + 2))) h ih) ?_
      refine if_ex (br_go (o_later (d + 47) (xs (i + 1)) (xs (i + 2))) h ih) ?_
      refine if_ex (br_go (o_bursts (d + 47) (xs (i + 1))) h ih) ?_
      refine if_ex (br_go (o_burst (d + 47) (xs (i + 1))) h ih) ?_
      refine if_ex (br_go (o_hoops (d + 47) (xs (i + 1))) h ih) ?_
      refine if_ex (br_go (o_change (d + 47) (xs (i + 1)) (xs (i + 2))) h ih) ?_
      refine if_ex (br_go (o_seating (d + 47) (xs (i + 1)) (xs (i + 2))) h ih) ?_
      refine if_ex (br_go (o_tun (d + 57) (xs (i + 1))) h ih) ?_
      refine if_ex (br_go (o_row (d + 56)) h ih) ?_
      refine if_ex (br_go (o_hear (d + 57)) h ih) ?_
      refine if_ex (br_go (o_wets (d + 47) (xs (i + 1))) h ih) ?_
      refine if_ex (br_go (o_tells (d + 47) (xs (i + 1)) (xs (i + 2))) h ih) ?_
      refine if_ex (br_go (o_drive (d + 56) (xs (i + 1)) (xs (i + 2))) h ih) ?_
      refine if_ex (br_go (o_sit (d + 56) (xs (i + 1)) (xs (i + 2))) h ih) ?_
      refine if_ex (br_go (o_say (d + 56) (xs (i + 1)) (xs (i + 2))) h ih) ?_
      refine if_ex (br_go (o_minutes (d + 48) (xs (i + 1))) h ih) ?_
      refine if_ex (br_go (o_chance (d + 48) (xs (i + 1))) h ih) ?_
      refine if_ex (br_go (o_undo (d + 57)) h ih) ?_
      refine if_ex (br_go (o_seed (d + 58) (xs (i + 1)) r1) h ih) ?_
      refine if_ex (br_goL (o_ask (d + 23)) h ih) ?_
      refine if_ex (br_go (o_image (d + 58)) h ih) ?_
      refine if_ex (br_go (o_octet (d + 59) (xs (i + 1))) h ih) ?_
      refine if_ex (br_go (o_on (d + 56)) h ih) ?_
      refine if_ex (br_go (o_status (d + 58) (xs (i + 1))) h ih) ?_
      exact ih s h
end LAW
