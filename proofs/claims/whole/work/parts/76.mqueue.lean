/-! the reference's codes and waits -/
section MQUEUE
variable {tp : List Int}
abbrev PQk : Nat → Nat → Prop := fun a i => (a = 84 ∧ (i = 99 ∨ i = 101 ∨ i = 102 ∨ i = 103)) ∨ a = 155 ∨ a = 156
abbrev PQp : Nat → Nat → Prop := fun a i => (a = 84 ∧ (i = 2 ∨ i = 4 ∨ i = 5 ∨ i = 6 ∨ i = 10 ∨ i = 38 ∨ i = 99 ∨ i = 101 ∨ i = 102 ∨ i = 103)) ∨ a = 155 ∨ a = 156
/-- codes so far, what waits (the last first), how many are open, where the sum at hand began -/
def QK (s : Mem) (k : Nat) (W C : List Int) (o b : Nat) : Prop := rI s 84 50 = (k : Int) ∧ (rI s 84 99 = (C.length : Int) ∧ Ag s 155 C) ∧ (rI s 84 101 = (W.length : Int) ∧ Pil s 156 W) ∧ rI s 84 102 = (o : Int) ∧ rI s 84 103 = (b : Int)
variable {s : Mem} {k o b : Nat} {W C : List Int}
theorem QK.fr {s' : Mem} {P : Nat → Nat → Prop} (h : QK s k W C o b) (hf : Fr P s s') (hp : ∀ a i, P a i → a = 84 ∧ i < 50) : QK s' k W C o b := by
  obtain ⟨h1, ⟨h2, h3⟩, ⟨h4, h5⟩, h6, h7⟩ := h
  refine ⟨(hf.i (fun q => ?_)).trans h1, ⟨(hf.i (fun q => ?_)).trans h2, h3.fr hf (fun i _ q => ?_)⟩, ⟨(hf.i (fun q => ?_)).trans h4, h5.fr hf (fun i q => ?_)⟩, (hf.i (fun q => ?_)).trans h6, (hf.i (fun q => ?_)).trans h7⟩
  all_goals (have := hp _ _ q; omega)
theorem QA.kk {s' : Mem} {q : Nat} (h : QA s tp q) (hf : Fr PQk s s') : QA s' tp q := h.fr hf (fun a i q => by unfold PQk at q; omega)
theorem QE.kk {s' : Mem} {q : Nat} (h : QE s tp q) (hf : Fr PQk s s') : QE s' tp q := h.fr hf (fun a i q => by unfold PQk at q; omega)
theorem PK_p {a i : Nat} (h : PQk a i) : PQp a i := by unfold PQk at h; unfold PQp; omega
theorem m_code (D : Nat) (h : QK s k W C o b) (hl : C.length < 1650) (c : Int) : ∃ s1, f_M_qCode (D + 1) c s = some (0, s1) ∧ Fr PQk s s1 ∧ QK s1 k W (C ++ [c]) o b := by
  obtain ⟨h1, ⟨h2, h3⟩, ⟨h4, h5⟩, h6, h7⟩ := h
  rw [e_M_qCode, h2, inB_n (by omega), Int.toNat_natCast, w32_s (by omega)]
  have hf : Fr (fun a i => a = 155 ∨ a = 84 ∧ i = 99) s (wI (wI s 155 C.length c) 84 99 ((C.length + 1 : Nat) : Int)) := (Fr.rf.w (Or.inl rfl)).w (Or.inr ⟨rfl, rfl⟩)
  refine ⟨_, rfl, hf.mo (fun a i q => by unfold PQk; omega), (hf.i (by omega)).trans h1, ⟨?_, ?_⟩, ⟨(hf.i (by omega)).trans h4, h5.fr hf (fun i q => by omega)⟩, (hf.i (by omega)).trans h6, (hf.i (by omega)).trans h7⟩
  · rw [rI_same, List.length_append]; rfl
  · intro i hi
    rw [rI_other _ _ _ _ (by omega)]
    exact h3.snoc i hi
theorem QK.push (h : QK s k W C o b) (v : Int) : QK (wI (wI s 156 W.length v) 84 101 ((W.length + 1 : Nat) : Int)) k (v :: W) C o b := by
  obtain ⟨h1, ⟨h2, h3⟩, ⟨h4, h5⟩, h6, h7⟩ := h
  have hf : Fr (fun a i => a = 156 ∨ a = 84 ∧ i = 101) s (wI (wI s 156 W.length v) 84 101 ((W.length + 1 : Nat) : Int)) := (Fr.rf.w (Or.inl rfl)).w (Or.inr ⟨rfl, rfl⟩)
  refine ⟨(hf.i (by omega)).trans h1, ⟨(hf.i (by omega)).trans h2, h3.fr hf (fun i _ q => by omega)⟩, ⟨by rw [rI_same]; rfl, ?_⟩, (hf.i (by omega)).trans h6, (hf.i (by omega)).trans h7⟩
  exact (h5.push v).fr (P := fun a i => a = 84 ∧ i = 101) (Fr.rf.w ⟨rfl, rfl⟩) (fun i q => by omega)
theorem QK.op {o' : Nat} (h : QK s k W C o b) : QK (wI s 84 102 (o' : Int)) k W C o' b := by
  obtain ⟨h1, ⟨h2, h3⟩, ⟨h4, h5⟩, h6, h7⟩ := h
  have hf : Fr (fun a i => a = 84 ∧ i = 102) s (wI s 84 102 (o' : Int)) := Fr.rf.w ⟨rfl, rfl⟩
  exact ⟨(hf.i (by omega)).trans h1, ⟨(hf.i (by omega)).trans h2, h3.fr hf (fun i _ q => by omega)⟩, ⟨(hf.i (by omega)).trans h4, h5.fr hf (fun i q => by omega)⟩, rI_same _ _ _ _, (hf.i (by omega)).trans h7⟩
theorem QK.bs {b' : Nat} (h : QK s k W C o b) : QK (wI s 84 103 (b' : Int)) k W C o b' := by
  obtain ⟨h1, ⟨h2, h3⟩, ⟨h4, h5⟩, h6, h7⟩ := h
  have hf : Fr (fun a i => a = 84 ∧ i = 103) s (wI s 84 103 (b' : Int)) := Fr.rf.w ⟨rfl, rfl⟩
  exact ⟨(hf.i (by omega)).trans h1, ⟨(hf.i (by omega)).trans h2, h3.fr hf (fun i _ q => by omega)⟩, ⟨(hf.i (by omega)).trans h4, h5.fr hf (fun i q => by omega)⟩, (hf.i (by omega)).trans h6, rI_same _ _ _ _⟩
theorem QK.pop {v : Int} (h : QK s k (v :: W) C o b) : QK (wI s 84 101 (W.length : Int)) k W C o b := by
  obtain ⟨h1, ⟨h2, h3⟩, ⟨h4, h5⟩, h6, h7⟩ := h
  have hf : Fr (fun a i => a = 84 ∧ i = 101) s (wI s 84 101 (W.length : Int)) := Fr.rf.w ⟨rfl, rfl⟩
  exact ⟨(hf.i (by omega)).trans h1, ⟨(hf.i (by omega)).trans h2, h3.fr hf (fun i _ q => by omega)⟩, ⟨rI_same _ _ _ _, h5.pop.fr hf (fun i q => by omega)⟩, (hf.i (by omega)).trans h6, (hf.i (by omega)).trans h7⟩
theorem QK.top {v : Int} (h : QK s k (v :: W) C o b) (hl : W.length < 1650) : w32 (rI s 84 101 - 1) = (W.length : Int) ∧ rI s 156 W.length = v := by
  have h4 := h.2.2.1.1
  refine ⟨?_, h.2.2.1.2.top⟩
  rw [h4, List.length_cons, w32_i (by omega) (by omega)]
  omega
theorem m_drops (D : Nat) {v : Int} (h : QK s k (v :: W) C o b) (hl : C.length < 1650) (hw : W.length < 1650) : ∃ s1, f_M_qDrops (D + 2) s = some (0, s1) ∧ Fr PQk s s1 ∧ QK s1 k W (C ++ [v]) o b := by
  obtain ⟨t1, t2⟩ := h.top hw
  rw [e_M_qDrops, t1, inB_n (by omega), Int.toNat_natCast, t2]
  obtain ⟨s1, e1, f1, g1⟩ := m_code D h.pop hl v
  rw [e1, Option.bind_some]
  exact ⟨s1, rfl, (Fr.rf.w (by unfold PQk; omega)).tr f1, g1⟩
theorem m_isOn (D : Nat) (h : QK s k W C o b) (hw : W.length < 1650) {a : Int} (ha : a ≠ 0) : f_M_qIsOn (D + 1) a s = some (if W.headD 0 = a then 1 else 0, s) := by
  rw [e_M_qIsOn, h.2.2.1.1]
  match W, h, hw with
  | [], h, hw =>
    rw [if_neg (by decide), if_neg (fun e => ha e.symm)]
  | v :: W1, h, hw =>
    obtain ⟨t1, t2⟩ := h.top (by simp only [List.length_cons] at hw; omega)
    rw [h.2.2.1.1] at t1
    have hw2 : W1.length < 1650 := by simp only [List.length_cons] at hw; omega
    rw [if_pos (by simp only [List.length_cons]; omega), t1, inB_n (by omega), Int.toNat_natCast, t2]
    show (if v = a then some ((1 : Int), s) else some (0, s)) = some (if v = a then 1 else 0, s)
    split <;> rfl
theorem m_isBr (D : Nat) (a : Int) (s : Mem) : f_M_qIsBracket (D + 1) a s = some (if 20 ≤ a ∧ a ≤ 24 then 1 else 0, s) := by
  rw [e_M_qIsBracket]
  by_cases h : a < 20
  · rw [if_pos h, if_neg (by omega)]
  · rw [if_neg h]
    by_cases h2 : 24 < a
    · rw [if_pos h2, if_neg (by omega)]
    · rw [if_neg h2, if_pos (by omega)]
/-- signs that join wait here alone -/
def Ops4 (ops : List Int) : Prop := ∀ v ∈ ops, 1 ≤ v ∧ v ≤ 4
theorem Ops4.tl {v : Int} {ops : List Int} (h : Ops4 (v :: ops)) : Ops4 ops := fun x hx => h x (List.mem_cons_of_mem _ hx)
theorem m_brk7 (D : Nat) {v : Int} {W1 : List Int} (hb : rI s 84 103 = (b : Int)) (hv : 20 ≤ v ∧ v ≤ 24) (hl : b ≤ W1.length) : ∀ ops : List Int, Ops4 ops → Pil s 156 (ops ++ v :: W1) → ops.length + W1.length < 1650 → L_M_qBracket_7 (D + 1) ((ops.length + W1.length : Nat) : Int) s = some (v, s)
  | [], _, hp, hn => by
    have ht : rI s 156 W1.length = v := hp.top
    rw [List.length_nil] at hn ⊢
    rw [e_M_qBracket_7, hb, if_neg (by omega), inB_n (by omega), Int.toNat_natCast, Nat.zero_add, ht, m_isBr, Option.bind_some, if_pos hv]
    simp only []
    rw [if_neg (by decide), e_M_qBracket_33, hb, if_neg (by omega), inB_n (by omega), Int.toNat_natCast, ht]
  | x :: ops, h4, hp, hn => by
    have hx := h4 x List.mem_cons_self
    have hp1 : Pil s 156 (x :: (ops ++ v :: W1)) := hp
    have ht : rI s 156 (ops ++ v :: W1).length = x := hp1.top
    have hln : (ops ++ v :: W1).length = ops.length + W1.length + 1 := by simp only [List.length_append, List.length_cons]; omega
    rw [hln] at ht
    have hcl : (x :: ops).length = ops.length + 1 := rfl
    rw [hcl] at hn ⊢
    rw [show ops.length + 1 + W1.length = ops.length + W1.length + 1 by omega, e_M_qBracket_7, hb, if_neg (by omega), inB_n (by omega), Int.toNat_natCast, ht, m_isBr, Option.bind_some, if_neg (show ¬ (20 ≤ x ∧ x ≤ 24) by omega)]
    simp only []
    rw [if_pos trivial, w32_i (by omega) (by omega), show ((ops.length + W1.length + 1 : Nat) : Int) + -1 = ((ops.length + W1.length : Nat) : Int) by omega]
    exact m_brk7 D hb hv hl ops h4.tl hp1.pop (by omega)
theorem m_brk7n (D : Nat) (hb : rI s 84 103 = (b : Int)) : ∀ ops : List Int, Ops4 ops → Pil s 156 (ops ++ W) → W.length = b → ops.length + W.length < 1650 → L_M_qBracket_7 (D + 1) (((ops.length + W.length : Nat) : Int) - 1) s = some (-1, s)
  | [], _, hp, hl, hn => by
    rw [List.length_nil] at hn ⊢
    rw [e_M_qBracket_7, hb, if_pos (by omega), e_M_qBracket_33, hb, if_pos (by omega)]
  | x :: ops, h4, hp, hl, hn => by
    have hx := h4 x List.mem_cons_self
    have hp1 : Pil s 156 (x :: (ops ++ W)) := hp
    have ht : rI s 156 (ops ++ W).length = x := hp1.top
    have hln : (ops ++ W).length = ops.length + W.length := by simp only [List.length_append]
    rw [hln] at ht
    have hcl : (x :: ops).length = ops.length + 1 := rfl
    rw [hcl] at hn ⊢
    rw [show ((ops.length + 1 + W.length : Nat) : Int) - 1 = ((ops.length + W.length : Nat) : Int) by omega, e_M_qBracket_7, hb, if_neg (by omega), inB_n (by omega), Int.toNat_natCast, ht, m_isBr, Option.bind_some, if_neg (show ¬ (20 ≤ x ∧ x ≤ 24) by omega)]
    simp only []
    rw [if_pos trivial, w32_i (by omega) (by omega), show ((ops.length + W.length : Nat) : Int) + -1 = ((ops.length + W.length : Nat) : Int) - 1 by omega]
    exact m_brk7n D hb ops h4.tl hp1.pop hl (by omega)
/-- what is open last in the sum at hand -/
theorem m_brk (D : Nat) {v : Int} {W1 ops : List Int} (h : QK s k (ops ++ v :: W1) C o b) (h4 : Ops4 ops) (hv : 20 ≤ v ∧ v ≤ 24) (hl : b ≤ W1.length) (hn : ops.length + W1.length < 1650) : f_M_qBracket (D + 2) s = some (v, s) := by
  have hln : (ops ++ v :: W1).length = ops.length + W1.length + 1 := by simp only [List.length_append, List.length_cons]; omega
  have e : w32 (rI s 84 101 - 1) = ((ops.length + W1.length : Nat) : Int) := by
    rw [h.2.2.1.1, hln, w32_i (by omega) (by omega)]; omega
  rw [e_M_qBracket, e]
  exact m_brk7 D h.2.2.2.2 hv hl ops h4 h.2.2.1.2 hn
theorem m_brkn (D : Nat) {ops : List Int} (h : QK s k (ops ++ W) C o b) (h4 : Ops4 ops) (hl : W.length = b) (hn : ops.length + W.length < 1650) : f_M_qBracket (D + 2) s = some (-1, s) := by
  have hln : (ops ++ W).length = ops.length + W.length := by simp only [List.length_append]
  have e : w32 (rI s 84 101 - 1) = ((ops.length + W.length : Nat) : Int) - 1 := by
    rw [h.2.2.1.1, hln, w32_i (by omega) (by omega)]
  rw [e_M_qBracket, e]
  exact m_brk7n D h.2.2.2.2 ops h4 h.2.2.1.2 hl hn
theorem m_dropsBr (D : Nat) {v : Int} {W1 : List Int} (hv : 20 ≤ v ∧ v ≤ 24) (hl : b ≤ W1.length) : ∀ (ops C : List Int) (s : Mem), Ops4 ops → QK s k (ops ++ v :: W1) C o b → C.length + ops.length + W1.length < 1650 → ∃ s1, L_M_qDropsToBracket_0 (D + 2) s = some (0, s1) ∧ Fr PQk s s1 ∧ QK s1 k (v :: W1) (C ++ ops) o b
  | [], C, s, _, h, hn => by
    have h0 : QK s k (v :: W1) C o b := h
    have hn0 : C.length + W1.length < 1650 := by simpa using hn
    obtain ⟨t1, t2⟩ := h0.top (by omega)
    rw [e_M_qDropsToBracket_0, t1, h0.2.2.2.2, h0.2.2.1.1, if_pos (by rw [List.length_cons]; omega), inB_n (by omega), Int.toNat_natCast, t2, m_isBr, Option.bind_some, if_pos hv]
    exact ⟨s, if_neg one_nz, Fr.rf, by rw [List.append_nil]; exact h0⟩
  | x :: ops, C, s, h4, h, hn => by
    have hx := h4 x List.mem_cons_self
    have h0 : QK s k (x :: (ops ++ v :: W1)) C o b := h
    have hln : (ops ++ v :: W1).length = ops.length + W1.length + 1 := by simp only [List.length_append, List.length_cons]; omega
    rw [List.length_cons] at hn
    obtain ⟨t1, t2⟩ := h0.top (by omega)
    rw [e_M_qDropsToBracket_0, t1, h0.2.2.2.2, h0.2.2.1.1, if_pos (by rw [List.length_cons]; omega), inB_n (by omega), Int.toNat_natCast, t2, m_isBr, Option.bind_some, if_neg (show ¬ (20 ≤ x ∧ x ≤ 24) by omega)]
    simp only []
    obtain ⟨s1, e1, f1, g1⟩ := m_drops D h0 (by omega) (by omega)
    rw [if_pos trivial, e1, Option.bind_some]
    simp only []
    obtain ⟨s2, e2, f2, g2⟩ := m_dropsBr D hv hl ops (C ++ [x]) s1 h4.tl g1 (by rw [List.length_append, List.length_singleton]; omega)
    exact ⟨s2, e2, f1.tr f2, by rw [List.append_assoc] at g2; exact g2⟩
/-- nothing ends here -/
theorem m_ends0 (D : Nat) (h : QK s k W C o b) (h5 : rI s 84 5 = 0) (hw : W.length < 1650) (hh : W.headD 0 < 60) : L_M_qEndsPart_0 D s = some (0, s) := by
  rw [e_M_qEndsPart_0, h5, if_pos rfl, h.2.2.2.2, h.2.2.1.1]
  by_cases c : b < W.length
  · match W, h, hw, hh, c with
    | v :: W1, h, hw, hh, c =>
      obtain ⟨t1, t2⟩ := h.top (by simp only [List.length_cons] at hw; omega)
      rw [h.2.2.1.1] at t1
      have hw2 : W1.length < 1650 := by simp only [List.length_cons] at hw; omega
      have hv : v < 60 := hh
      rw [if_pos (by omega), t1, inB_n (by omega), Int.toNat_natCast, t2, if_pos hv]
  · rw [if_neg (by omega)]
theorem m_ends1 (D : Nat) {v : Int} (h : QK s k (v :: W) C (o + 1) b) (h5 : rI s 84 5 = 0) (hv : 60 ≤ v) (hl : b ≤ W.length) (hw : W.length < 1650) (hc : C.length < 1650) (ho : o < 100) : ∃ s1, L_M_qEndsPart_0 (D + 2) s = L_M_qEndsPart_0 (D + 2) s1 ∧ Fr PQk s s1 ∧ QK s1 k W (C ++ [v]) o b := by
  obtain ⟨t1, t2⟩ := h.top hw
  rw [e_M_qEndsPart_0, h5, if_pos rfl, t1, h.2.2.2.2, h.2.2.1.1, if_pos (by rw [List.length_cons]; omega), inB_n (by omega), Int.toNat_natCast, t2, if_neg (by omega), h.2.2.2.1, w32_i (by omega) (by omega), show ((o + 1 : Nat) : Int) - 1 = (o : Int) by omega]
  obtain ⟨s1, e1, f1, g1⟩ := m_drops D (h.op (o' := o)) hc hw
  rw [e1, Option.bind_some]
  exact ⟨s1, rfl, (Fr.rf.w (by unfold PQk; omega)).tr f1, g1⟩
/-- whatever ends here: no fault comes of it -/
theorem m_endsB (D : Nat) : ∀ (n c : Nat) (s : Mem), rI s 84 5 = 0 → rI s 84 101 = (n : Int) → rI s 84 103 = (b : Int) → rI s 84 99 = (c : Int) → n + c < 1650 → ∃ s1, L_M_qEndsPart_0 (D + 2) s = some (0, s1) ∧ rI s1 84 5 = 0
  | 0, c, s, h5, h1, h3, h9, hn => by
    rw [e_M_qEndsPart_0, h5, if_pos rfl, h1, h3, if_neg (by omega)]
    exact ⟨s, rfl, h5⟩
  | n + 1, c, s, h5, h1, h3, h9, hn => by
    rw [e_M_qEndsPart_0, h5, if_pos rfl, h1, h3]
    by_cases c1 : (b : Int) < ((n + 1 : Nat) : Int)
    · rw [if_pos c1, w32_i (by omega) (by omega), show ((n + 1 : Nat) : Int) - 1 = (n : Int) by omega, inB_n (by omega), Int.toNat_natCast]
      by_cases c2 : rI s 156 n < 60
      · rw [if_pos c2]; exact ⟨s, rfl, h5⟩
      · rw [if_neg c2, e_M_qDrops, rI_other _ _ _ _ (by omega), h1, w32_i (z := ((n + 1 : Nat) : Int) - 1) (by omega) (by omega), show ((n + 1 : Nat) : Int) - 1 = (n : Int) by omega, inB_n (by omega), Int.toNat_natCast, e_M_qCode, rI_other _ _ _ _ (by omega), rI_other _ _ _ _ (by omega), h9, inB_n (by omega), Int.toNat_natCast, w32_s (by omega), Option.bind_some]
        simp only []
        rw [Option.bind_some]
        exact m_endsB D n (c + 1) _ (by rw [rI_other _ _ _ _ (by omega), rI_other _ _ _ _ (by omega), rI_other _ _ _ _ (by omega), rI_other _ _ _ _ (by omega)]; exact h5) (by rw [rI_other _ _ _ _ (by omega), rI_other _ _ _ _ (by omega), rI_same]) (by rw [rI_other _ _ _ _ (by omega), rI_other _ _ _ _ (by omega), rI_other _ _ _ _ (by omega), rI_other _ _ _ _ (by omega)]; exact h3) (rI_same _ _ _ _) (by omega)
    · rw [if_neg c1]; exact ⟨s, rfl, h5⟩
theorem m_sq1 (D : Nat) (hn : rI s 84 101 = (W.length : Int)) (hw : W.length < 1650) : ∀ m i : Nat, i + m = W.length → (∃ j, i ≤ j ∧ j < W.length ∧ rI s 156 j = 25) → L_M_qHasSquare_2 D (i : Int) s = some (1, s)
  | 0, i, hi, h => by
    obtain ⟨j, a, b, -⟩ := h
    omega
  | m + 1, i, hi, h => by
    rw [e_M_qHasSquare_2, hn, if_pos (by omega), inB_n (by omega), Int.toNat_natCast]
    by_cases c : rI s 156 i = 25
    · rw [if_pos c]
    · rw [if_neg c, w32_s (by omega)]
      refine m_sq1 D hn hw m (i + 1) (by omega) ?_
      obtain ⟨j, a, b, d⟩ := h
      refine ⟨j, ?_, b, d⟩
      rcases Nat.eq_or_lt_of_le a with e | e
      · rw [← e] at d; exact absurd d c
      · exact e
theorem m_sq0 (D : Nat) (hn : rI s 84 101 = (W.length : Int)) (hw : W.length < 1650) : ∀ m i : Nat, i + m = W.length → (∀ j, i ≤ j → j < W.length → rI s 156 j ≠ 25) → L_M_qHasSquare_2 D (i : Int) s = some (0, s)
  | 0, i, hi, h => by
    rw [e_M_qHasSquare_2, hn, if_neg (by omega)]
  | m + 1, i, hi, h => by
    rw [e_M_qHasSquare_2, hn, if_pos (by omega), inB_n (by omega), Int.toNat_natCast, if_neg (h i (Nat.le_refl _) (by omega)), w32_s (by omega)]
    exact m_sq0 D hn hw m (i + 1) (by omega) (fun j a b => h j (by omega) b)
theorem Pil.mem (v : Int) : ∀ {W : List Int}, Pil s 156 W → ((∃ j, j < W.length ∧ rI s 156 j = v) ↔ v ∈ W)
  | [], _ => ⟨fun ⟨j, a, _⟩ => absurd a (Nat.not_lt_zero _), fun q => by cases q⟩
  | x :: W, h => by
    have ih := Pil.mem v h.pop
    have ht := h.top
    constructor
    · rintro ⟨j, a, d⟩
      rw [List.length_cons] at a
      rcases Nat.eq_or_lt_of_le (Nat.le_of_lt_succ a) with e | e
      · rw [e, ht] at d; rw [d]; exact List.mem_cons_self
      · exact List.mem_cons_of_mem _ (ih.mp ⟨j, e, d⟩)
    · intro q
      rcases List.mem_cons.mp q with e | e
      · exact ⟨W.length, by rw [List.length_cons]; omega, by rw [ht, e]⟩
      · obtain ⟨j, a, d⟩ := ih.mpr e
        exact ⟨j, by rw [List.length_cons]; omega, d⟩
theorem m_hasSq (D : Nat) (h : QK s k W C o b) (hw : W.length < 1650) : f_M_qHasSquare (D + 1) s = some (if 25 ∈ W then 1 else 0, s) := by
  rw [e_M_qHasSquare]
  have e := Pil.mem 25 h.2.2.1.2
  by_cases c : 25 ∈ W
  · obtain ⟨j, a, d⟩ := e.mpr c
    rw [if_pos c]
    exact m_sq1 D h.2.2.1.1 hw W.length 0 (by omega) ⟨j, Nat.zero_le _, a, d⟩
  · rw [if_neg c]
    exact m_sq0 D h.2.2.1.1 hw W.length 0 (by omega) (fun j _ a d => c (e.mp ⟨j, a, d⟩))
theorem m_nots0 (D : Nat) (h : QK s k W C o b) (h5 : rI s 84 5 = 0) (hw : W.length < 1650) (hh : W.headD 0 ≠ 12) : L_M_qDropsNots_0 (D + 1) s = some (0, s) := by
  rw [e_M_qDropsNots_0, h5, if_pos rfl, m_isOn D h hw (by decide), Option.bind_some, if_neg hh]
  rfl
theorem m_nots1 (D : Nat) (h : QK s k (12 :: W) C (o + 1) b) (h5 : rI s 84 5 = 0) (hw : W.length < 1649) (hc : C.length < 1650) (ho : o < 100) : ∃ s1, L_M_qDropsNots_0 (D + 2) s = L_M_qDropsNots_0 (D + 2) s1 ∧ Fr PQk s s1 ∧ QK s1 k W (C ++ [12]) o b := by
  rw [e_M_qDropsNots_0, h5, if_pos rfl, m_isOn (D + 1) h (by rw [List.length_cons]; omega) (by decide), Option.bind_some, if_pos (show (12 :: W).headD 0 = 12 from rfl)]
  simp only []
  rw [if_neg (by decide), h.2.2.2.1, w32_i (by omega) (by omega), show ((o + 1 : Nat) : Int) - 1 = (o : Int) by omega]
  obtain ⟨s1, e1, f1, g1⟩ := m_drops D (h.op (o' := o)) hc (by omega)
  rw [e1, Option.bind_some]
  exact ⟨s1, rfl, (Fr.rf.w (by unfold PQk; omega)).tr f1, g1⟩
end MQUEUE
