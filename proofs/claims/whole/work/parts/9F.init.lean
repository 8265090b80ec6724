/-! the constructors, in the kernel -/
section INIT
def mem0 : Mem := (fun _ _ => 0, (fun _ _ => 0, 0))
def cE (K : Nat) : Nat → Cy
  | 0 => fun _ _ _ => none
  | d + 1 => fun i as σ => match ctGet metL i with
    | none => none
    | some (w, rt, ml, cd) => bif Nat.ble (sumC as) ml && Nat.blt i 900 then execF false noX 0 w rt cd (cE K d) K 0 (argL 0 as) [] σ else none
def rsA : Rs := cE 1500 5 0 [vr 0 0 0] (wN mem0 1)
def sA : Mem := rsA.elim mem0 fun p => p.2
def rsB : Rs := cE 1500 5 134 [vr 10 0 84] (wN sA 85)
def sB : Mem := rsB.elim mem0 fun p => p.2
set_option maxRecDepth 100000 in
theorem hA : (rsA.elim 0 fun p => rN p.2) = 84 := by decide +kernel
set_option maxRecDepth 100000 in
theorem hB : (rsB.elim 0 fun p => rN p.2) = 159 := by decide +kernel
theorem rsA_e : ∃ v, rsA = some (v, sA) := by
  have h := hA
  unfold sA
  cases e : rsA with
  | none => rw [e] at h; exact absurd h (by decide)
  | some p => exact ⟨p.1, rfl⟩
theorem rsB_e : ∃ v, rsB = some (v, sB) := by
  have h := hB
  unfold sB
  cases e : rsB with
  | none => rw [e] at h; exact absurd h (by decide)
  | some p => exact ⟨p.1, rfl⟩
theorem nA : rN sA = 84 := by
  obtain ⟨v, e⟩ := rsA_e
  have g : ∀ t : Mem, rsA = some (v, t) → rN t = 84 := fun t q => by
    have h := hA
    rw [q] at h
    exact h
  exact g _ e
theorem nB : rN sB = 159 := by
  obtain ⟨v, e⟩ := rsB_e
  have g : ∀ t : Mem, rsB = some (v, t) → rN t = 159 := fun t q => by
    have h := hB
    rw [q] at h
    exact h
  exact g _ e
set_option maxRecDepth 100000 in
theorem b_ptr : rQ sB 0 2 = 6 ∧ rQ sB 0 3 = 17 := by decide +kernel
set_option maxRecDepth 100000 in
theorem b_x : (rI sB 6 1 = 0 ∧ rI sB 6 2 = 0) ∧ (rI sB 28 1 = 0 ∧ rI sB 28 2 = 0) ∧ rI sB 42 1 = 0 ∧ rI sB 66 2 = 0 ∧ (rI sB 44 1 = 0 ∧ rI sB 44 2 = 0) := by decide +kernel
set_option maxRecDepth 100000 in
theorem b_m : (rI sB 84 49 = 0 ∧ rI sB 114 3 = 0 ∧ rI sB 114 4 = 0) ∧ rI sB 84 66 = 0 ∧ rI sB 84 71 = 0 ∧ rI sB 84 70 = 0 := by decide +kernel
set_option maxRecDepth 100000 in
theorem b_122 : ∀ i : Fin 25, rI sB 122 i.val = 0 := by decide +kernel
set_option maxRecDepth 100000 in
theorem b_t : rI sB 1 1 = 0 ∧ rI sB 84 1 = 0 ∧ rI sB 0 11 = 0 ∧ rI sB 84 109 = 0 ∧ rI sB 0 15 = 1 ∧ rI sB 84 72 = 1 ∧ rI sB 0 13 = rI sB 84 7 ∧ rI sB 0 14 = rI sB 84 8 := by decide +kernel
set_option maxRecDepth 100000 in
theorem b_r : (∀ k : Fin 6, rI sB 83 k.val = 0) ∧ ∀ k : Fin 6, rI sB 86 k.val = 0 := by decide +kernel
set_option maxRecDepth 100000 in
theorem b_q : rI sB 84 59 = 0 ∧ rI sB 84 53 = -1 ∧ rI sB 84 57 = 0 := by decide +kernel
set_option maxRecDepth 100000 in
theorem b_w : ∀ o : Fin 155, woO o.val = true → ∀ i : Fin 6, i.val < (WD.getD (woA o.val) []).length → rI sB o.val i.val = (WD.getD (woA o.val) []).getD i.val 0 := by decide +kernel
def sOkB (o t k p : Nat) : Bool := match fkT t k with
  | (3, _) => !(Nat.beq p 0)
  | (4, _, _, a, b) => Nat.beq p (o + a - b + 1)
  | _ => true
theorem sOkB_t {o t k p : Nat} (h : sOkB o t k p = true) : sOk o t k p := by
  unfold sOkB at h
  unfold sOk
  generalize fkT t k = x at h ⊢
  obtain ⟨a, b, c, d, e⟩ := x
  match a, h with
  | 0, h => exact trivial
  | 1, h => exact trivial
  | 2, h => exact trivial
  | 3, h =>
    intro q
    rw [q] at h
    have h2 : (!(Nat.beq 0 0)) = true := h
    exact absurd h2 (by decide)
  | 4, h => exact Nat.eq_of_beq_eq_true h
  | n + 5, h => exact trivial
def okSB (σ : Mem) (o : Nat) : Bool := match nthL layL o with
  | none => true
  | some q => (Nat.ble 11 q.1 || (List.range (NF q.1)).all fun k => sOkB o q.1 k (rP σ o k)) && (match innT q.1 with
    | none => true
    | some _ => (List.range q.2).all fun k => Nat.beq (rP σ o k) (o + 1 + k + 1))
set_option maxRecDepth 100000 in
theorem b_s : ((List.range 159).all fun o => okSB sB o) = true := by decide +kernel
theorem b_okS : okS sB := by
  refine ⟨nB, fun o t n hl => ?_⟩
  have h := List.all_eq_true.mp b_s o (List.mem_range.mpr (lay_len hl))
  unfold okSB at h
  rw [hl] at h
  simp only [Bool.and_eq_true, Bool.or_eq_true] at h
  refine ⟨fun ht k hk => ?_, fun i hi k hk => ?_⟩
  · rcases h.1 with h1 | h1
    · exact absurd (Nat.le_of_ble_eq_true h1) (by omega)
    · exact sOkB_t (List.all_eq_true.mp h1 k (List.mem_range.mpr hk))
  · have h2 := h.2
    rw [hi] at h2
    exact Nat.eq_of_beq_eq_true (List.all_eq_true.mp h2 k (List.mem_range.mpr hk))
theorem b_inv : Inv sB := by
  obtain ⟨t1, t2, t3, t4, t5, t6, t7, t8⟩ := b_t
  obtain ⟨r1, r2⟩ := b_r
  obtain ⟨p1, p2⟩ := b_ptr
  obtain ⟨q1, q2, q3⟩ := b_q
  obtain ⟨x1, x2, x3, x4, x5, x6⟩ := b_x
  obtain ⟨m1, m2, m3, m4⟩ := b_m
  have ag0 : ∀ p, Ag sB p [] := fun p i hi => absurd hi (Nat.not_lt_zero _)
  refine ⟨⟨[], [], fun _ => 0, rI sB 0 13, rI sB 0 14, 1, Bys_nil, by decide, ⟨⟨t1, by decide, ag0 2⟩, ⟨t3, by decide, ag0 82⟩, fun k hk => r1 ⟨k, hk⟩, ⟨rfl, rfl⟩, t5, Or.inl ⟨p1, p2⟩⟩, ⟨⟨t2, by decide, ag0 85⟩, ⟨t4, by decide, ag0 158⟩, fun k hk => r2 ⟨k, hk⟩, ⟨t7.symm, t8.symm⟩, t6, fun o ho i hi => ?_⟩, ⟨⟨0, q1, by decide⟩, q2, q3⟩⟩, Or.inl ⟨0, ⟨?_, x2, x3, x4, x5, by decide, x6⟩, m1, fun i hi => b_122 ⟨i, hi⟩, m2, m3, m4⟩⟩
  · obtain ⟨w1, w2, w3, w4⟩ := woO_i ho
    exact b_w ⟨o, w2⟩ ho ⟨i, by omega⟩ hi
  · rw [p1]
    exact x1
end INIT
