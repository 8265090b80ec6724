/-! the reference's minute -/
/-- what is kept: four numbers each, 40 at the most -/
def kad (K : List Int) (m g q z : Int) : List Int := if K.length = 160 then K.drop 4 ++ [m, g, q, z] else K ++ [m, g, q, z]
def kads (K : List Int) (m : Int) (r : List (Nat × Int × Int)) : List Int := r.foldl (fun K b => kad K m (b.1 : Int) b.2.1 b.2.2) K
theorem kad_len {K : List Int} {m g q z : Int} {c : Nat} (h : K.length = 4 * c) (hc : c ≤ 40) : (kad K m g q z).length = 4 * (if c = 40 then 40 else c + 1) := by
  unfold kad
  split
  · rw [if_pos (by omega)]
    simp
    omega
  · rw [if_neg (by omega)]
    simp
    omega
theorem kad_full {K : List Int} {m g q z : Int} (h : K.length = 160) : (∀ i, i < 156 → (kad K m g q z).getD i 0 = K.getD (i + 4) 0) ∧ (kad K m g q z).getD 156 0 = m ∧ (kad K m g q z).getD 157 0 = g ∧ (kad K m g q z).getD 158 0 = q ∧ (kad K m g q z).getD 159 0 = z := by
  unfold kad
  rw [if_pos h]
  have hd : (K.drop 4).length = 156 := by simp; omega
  refine ⟨fun i hi => ?_, ?_, ?_, ?_, ?_⟩
  · rw [List.getD_eq_getElem?_getD, List.getElem?_append_left (by omega), List.getElem?_drop, List.getD_eq_getElem?_getD, Nat.add_comm]
  all_goals
    rw [List.getD_eq_getElem?_getD, List.getElem?_append_right (by omega), hd]
    rfl
theorem kad_part {K : List Int} {m g q z : Int} (h : K.length ≠ 160) : (∀ i, i < K.length → (kad K m g q z).getD i 0 = K.getD i 0) ∧ (kad K m g q z).getD K.length 0 = m ∧ (kad K m g q z).getD (K.length + 1) 0 = g ∧ (kad K m g q z).getD (K.length + 2) 0 = q ∧ (kad K m g q z).getD (K.length + 3) 0 = z := by
  unfold kad
  rw [if_neg h]
  refine ⟨fun i hi => ?_, ?_, ?_, ?_, ?_⟩
  · rw [List.getD_eq_getElem?_getD, List.getElem?_append_left hi, List.getD_eq_getElem?_getD]
  all_goals
    rw [List.getD_eq_getElem?_getD, List.getElem?_append_right (by omega)]
    first
      | (rw [Nat.sub_self]; rfl)
      | (rw [Nat.add_sub_cancel_left]; rfl)
def MK (s : Mem) (K : List Int) : Prop := ∃ c : Nat, c ≤ 40 ∧ K.length = 4 * c ∧ rI s 122 24 = (c : Int) ∧ ∀ i, i < 4 * c → rI s 122 (25 + i) = K.getD i 0
/-- thought of alone, or kept -/
def Kq (s : Mem) (th : Bool) (K : List Int) : Prop := (th = true ∧ rI s 84 57 = 1) ∨ (th = false ∧ rI s 84 57 = 0 ∧ MK s K)
def kth (th : Bool) (K : List Int) (m : Int) (r : List (Nat × Int × Int)) : List Int := if th then K else kads K m r
abbrev PKh (th : Bool) : Nat → Nat → Prop := fun a i => a = 122 ∧ (24 ≤ i ∧ th = false)
theorem MW.hi {s : Mem} {w : Nat → Int} (h : MW s w) {i : Nat} (hi : 24 ≤ i) (v : Int) : MW (wI s 122 i v) w := fun j hj => by rw [rI_other _ _ _ _ (by omega)]; exact h j hj
theorem MW.lo {s : Mem} {w : Nat → Int} (h : MW s w) (i : Nat) (v : Int) : MW (wI s 122 i v) (upW w i v) := fun j hj => by
  by_cases e : j = i
  · rw [e, rI_same, upW_s]
  · rw [rI_other _ _ _ _ (by omega), upW_o e]; exact h j hj
theorem MK.fr {s s' : Mem} {K : List Int} {P : Nat → Nat → Prop} (h : MK s K) (hf : Fr P s s') (hp : ∀ a i, P a i → a ≠ 122 ∨ i < 24) : MK s' K := by
  obtain ⟨c, h1, h2, h3, h4⟩ := h
  exact ⟨c, h1, h2, (hf.i (fun q => by have := hp _ _ q; omega)).trans h3, fun i hi => (hf.i (fun q => by have := hp _ _ q; omega)).trans (h4 i hi)⟩
theorem Kq.fr {s s' : Mem} {th : Bool} {K : List Int} {P : Nat → Nat → Prop} (h : Kq s th K) (hf : Fr P s s') (hp : ∀ a i, P a i → (a ≠ 122 ∨ i < 24) ∧ (a ≠ 84 ∨ i ≠ 57)) : Kq s' th K := by
  have h57 : rI s' 84 57 = rI s 84 57 := hf.i (fun q => by have := (hp _ _ q).2; omega)
  rcases h with ⟨h1, h2⟩ | ⟨h1, h2, h3⟩
  · exact Or.inl ⟨h1, h57.trans h2⟩
  · exact Or.inr ⟨h1, h57.trans h2, h3.fr hf (fun a i q => (hp a i q).1)⟩
section MPASS
variable {T : Tab} {w : Nat → Int}
theorem m_kept23 (D : Nat) (k z : Int) : ∀ (j e : Nat) (s : Mem), e + j = 181 → 25 ≤ e → ∃ s1, L_M_isKept_23 D k z (e : Int) s = L_M_isKept_64 D k z s1 ∧ Fr (fun a i => a = 122 ∧ e ≤ i) s s1 ∧ (∀ i, e ≤ i → i < 181 → rI s1 122 i = rI s 122 (i + 4)) ∧ ∀ i, 181 ≤ i → rI s1 122 i = rI s 122 i
  | 0, e, s, h, h25 => by
    rw [e_M_isKept_23, if_neg (by omega)]
    exact ⟨s, rfl, Fr.rf, fun i h1 h2 => by omega, fun i _ => rfl⟩
  | j + 1, e, s, h, h25 => by
    have e4 : w32 ((e : Int) + 4) = ((e + 4 : Nat) : Int) := by rw [w32_i (by omega) (by omega)]; omega
    obtain ⟨s1, e1, f1, g1, g2⟩ := m_kept23 D k z j (e + 1) (wI s 122 e (rI s 122 (e + 4))) (by omega) (by omega)
    refine ⟨s1, ?_, (Fr.rf.w (P := fun a i => a = 122 ∧ e ≤ i) ⟨rfl, Nat.le_refl _⟩).tr (f1.mo fun a i q => ⟨q.1, by omega⟩), fun i h1 h2 => ?_, fun i h1 => ?_⟩
    · rw [e_M_isKept_23, if_pos (by omega), e4, inB_n (by omega), inB_n (by omega), w32_s (by omega), Int.toNat_natCast, Int.toNat_natCast, e1]
    · by_cases q : i = e
      · rw [q, f1.i (by omega), rI_same]
      · rw [g1 i (by omega) h2, rI_other _ _ _ _ (by omega)]
    · rw [g2 i h1, rI_other _ _ _ _ (by omega)]
theorem m_kept64 (D : Nat) {s : Mem} {k : Nat} {z : Int} {c : Nat} (hw : MW s w) (hk : k < 7) (hc : rI s 122 24 = ((c + 1 : Nat) : Int)) (hc2 : c < 40) : L_M_isKept_64 (D + 1) (k : Int) z s = some (0, wI (wI (wI (wI s 122 (25 + 4 * c) (w 0)) 122 (25 + 4 * c + 1) (k : Int)) 122 (25 + 4 * c + 2) (w (10 + 2 * k))) 122 (25 + 4 * c + 3) z) := by
  have e0 : w32 ((w32 (25 + (w32 (4 * ((c + 1 : Nat) : Int))))) - 4) = ((25 + 4 * c : Nat) : Int) := by
    rw [w32_i (z := 4 * ((c + 1 : Nat) : Int)) (by omega) (by omega), w32_i (z := 25 + 4 * ((c + 1 : Nat) : Int)) (by omega) (by omega), w32_i (by omega) (by omega)]
    omega
  have e1 : w32 (((25 + 4 * c : Nat) : Int) + 1) = ((25 + 4 * c + 1 : Nat) : Int) := w32_s (by omega)
  have e2 : w32 (((25 + 4 * c : Nat) : Int) + 2) = ((25 + 4 * c + 2 : Nat) : Int) := by rw [w32_i (by omega) (by omega)]; omega
  have e3 : w32 (((25 + 4 * c : Nat) : Int) + 3) = ((25 + 4 * c + 3 : Nat) : Int) := by rw [w32_i (by omega) (by omega)]; omega
  rw [e_M_isKept_64, hc, e0, e1, e2, e3, inB_n (by omega), inB_n (by omega), Int.toNat_natCast, Int.toNat_natCast, hw 0 (by omega), m_seatOf D ((hw.hi (by omega) _).hi (by omega) _) hk, Option.bind_some]
  simp only []
  rw [inB_n (by omega), inB_n (by omega), Int.toNat_natCast, Int.toNat_natCast]
theorem m_isKept (D : Nat) {s : Mem} {k : Nat} {z : Int} {th : Bool} {K : List Int} (hw : MW s w) (hk : k < 7) (hq : Kq s th K) : ∃ s1, f_M_isKept (D + 2) (k : Int) z s = some (0, s1) ∧ Fr (PKh th) s s1 ∧ MW s1 w ∧ Kq s1 th (if th then K else kad K (w 0) (k : Int) (w (10 + 2 * k)) z) := by
  rcases hq with ⟨rfl, h57⟩ | ⟨rfl, h57, c, hc, hl, h24, hK⟩
  · rw [e_M_isKept, h57, if_neg (by omega)]
    exact ⟨s, rfl, Fr.rf, hw, Or.inl ⟨rfl, h57⟩⟩
  · rw [e_M_isKept, if_pos h57, h24]
    simp only [Bool.false_eq_true, if_false]
    by_cases h40 : c = 40
    · subst h40
      obtain ⟨s1, e1, f1, g1, g2⟩ := m_kept23 (D + 1) (k : Int) z 156 25 s rfl (by omega)
      have hw1 : MW s1 w := fun i hi => (f1.i (by omega)).trans (hw i hi)
      have h24b : rI s1 122 24 = ((39 + 1 : Nat) : Int) := (f1.i (by omega)).trans h24
      rw [if_pos (show ((40 : Nat) : Int) = 40 from rfl), show L_M_isKept_23 (D + 1) (k : Int) z 25 s = L_M_isKept_64 (D + 1) (k : Int) z s1 from e1, m_kept64 D hw1 hk h24b (by omega)]
      obtain ⟨k1, k2, k3, k4, k5⟩ := kad_full (K := K) (m := w 0) (g := (k : Int)) (q := w (10 + 2 * k)) (z := z) hl
      refine ⟨_, rfl, ((((f1.mo (fun a i q => ⟨q.1, by omega, rfl⟩)).w ⟨rfl, by omega, rfl⟩).w ⟨rfl, by omega, rfl⟩).w ⟨rfl, by omega, rfl⟩).w ⟨rfl, by omega, rfl⟩, (((hw1.hi (by omega) _).hi (by omega) _).hi (by omega) _).hi (by omega) _, Or.inr ⟨rfl, ?_, 40, Nat.le_refl _, ?_, ?_, fun i hi => ?_⟩⟩
      · rw [rI_other _ _ _ _ (by omega), rI_other _ _ _ _ (by omega), rI_other _ _ _ _ (by omega), rI_other _ _ _ _ (by omega), f1.i (by omega)]; exact h57
      · rw [kad_len hl (Nat.le_refl _), if_pos rfl]
      · rw [rI_other _ _ _ _ (by omega), rI_other _ _ _ _ (by omega), rI_other _ _ _ _ (by omega), rI_other _ _ _ _ (by omega)]; exact h24b
      · by_cases i1 : i < 156
        · rw [rI_other _ _ _ _ (by omega), rI_other _ _ _ _ (by omega), rI_other _ _ _ _ (by omega), rI_other _ _ _ _ (by omega), g1 _ (by omega) (by omega), k1 i i1, show 25 + i + 4 = 25 + (i + 4) by omega]
          exact hK (i + 4) (by omega)
        · have : i = 156 ∨ i = 157 ∨ i = 158 ∨ i = 159 := by omega
          rcases this with rfl | rfl | rfl | rfl
          · rw [rI_other _ _ _ _ (by omega), rI_other _ _ _ _ (by omega), rI_other _ _ _ _ (by omega), k2]; exact rI_same _ _ _ _
          · rw [rI_other _ _ _ _ (by omega), rI_other _ _ _ _ (by omega), k3]; exact rI_same _ _ _ _
          · rw [rI_other _ _ _ _ (by omega), k4]; exact rI_same _ _ _ _
          · rw [k5]; exact rI_same _ _ _ _
    · have hc1 : (c : Int) ≠ 40 := by omega
      have h24b : rI (wI s 122 24 ((c + 1 : Nat) : Int)) 122 24 = ((c + 1 : Nat) : Int) := rI_same _ _ _ _
      have hw1 : MW (wI s 122 24 ((c + 1 : Nat) : Int)) w := hw.hi (by omega) _
      rw [if_neg hc1, w32_s (by omega), m_kept64 D hw1 hk h24b (by omega)]
      obtain ⟨k1, k2, k3, k4, k5⟩ := kad_part (K := K) (m := w 0) (g := (k : Int)) (q := w (10 + 2 * k)) (z := z) (by omega)
      refine ⟨_, rfl, (((((Fr.rf.w ⟨rfl, by omega, rfl⟩).w ⟨rfl, by omega, rfl⟩).w ⟨rfl, by omega, rfl⟩).w ⟨rfl, by omega, rfl⟩).w ⟨rfl, by omega, rfl⟩), (((hw1.hi (by omega) _).hi (by omega) _).hi (by omega) _).hi (by omega) _, Or.inr ⟨rfl, ?_, c + 1, by omega, ?_, ?_, fun i hi => ?_⟩⟩
      · rw [rI_other _ _ _ _ (by omega), rI_other _ _ _ _ (by omega), rI_other _ _ _ _ (by omega), rI_other _ _ _ _ (by omega), rI_other _ _ _ _ (by omega)]; exact h57
      · rw [kad_len hl hc, if_neg h40]
      · rw [rI_other _ _ _ _ (by omega), rI_other _ _ _ _ (by omega), rI_other _ _ _ _ (by omega), rI_other _ _ _ _ (by omega)]; exact h24b
      · rw [hl] at k1 k2 k3 k4 k5
        by_cases i1 : i < 4 * c
        · rw [rI_other _ _ _ _ (by omega), rI_other _ _ _ _ (by omega), rI_other _ _ _ _ (by omega), rI_other _ _ _ _ (by omega), rI_other _ _ _ _ (by omega), k1 i i1]
          exact hK i i1
        · have : i = 4 * c ∨ i = 4 * c + 1 ∨ i = 4 * c + 2 ∨ i = 4 * c + 3 := by omega
          rcases this with rfl | rfl | rfl | rfl
          · rw [rI_other _ _ _ _ (by omega), rI_other _ _ _ _ (by omega), rI_other _ _ _ _ (by omega), k2]; exact rI_same _ _ _ _
          · rw [rI_other _ _ _ _ (by omega), rI_other _ _ _ _ (by omega), k3]; exact rI_same _ _ _ _
          · rw [rI_other _ _ _ _ (by omega), k4]; exact rI_same _ _ _ _
          · rw [k5]; exact rI_same _ _ _ _
end MPASS
