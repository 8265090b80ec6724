/-! the abstract memory in the heap: which cell holds what -/
def szO (o : Nat) : Nat := match nthL layL o with
  | none => 0
  | some q => if q.1 < 11 then NF q.1 else q.2
def slN : Nat → Nat
  | 0 => 0
  | n + 1 => slN n + szO n
/-- where the machine's cells begin, the script, the text of the words -/
abbrev BS : Type := Nat × Nat × Nat
def adV (B : BS) : AV → Value
  | .inl z => .int (Int32.ofInt z)
  | .inr (.inl z) => .long (Int64.ofInt z)
  | .inr (.inr none) => .null
  | .inr (.inr (some (t, _, o))) => if t = 23 then .ref B.2.1 else if t = 24 then .ref B.2.2 else .ref (B.1 + o)
def pfV (base q : Nat) : Value := match q with
  | 0 => .null
  | a + 1 => .ref (base + a)
def fvV (base t k : Nat) (σ : Mem) (o : Nat) : Value := match (fkT t k).1 with
  | 0 => .int (Int32.ofInt (rI σ o k))
  | 1 => .long (Int64.ofInt (rI σ o k))
  | 2 => .int (Int32.ofInt (rI σ o k))
  | _ => pfV base (rP σ o k)
def pq (base q : Nat) : Option Nat := match q with
  | 0 => none
  | a + 1 => some (base + a)
def cellE (cA : Nat → ClassId) (base : Nat) (σ : Mem) (o : Nat) : va_E := match nthL layL o with
  | none => .inr (99, [])
  | some q => if q.1 < 11 then .inr (q.1, (List.range (NF q.1)).map fun k => fvV base q.1 k σ o)
    else if q.1 = 21 then .inl (cA 21, q.2, .inr (.inl fun k => Int64.ofInt (rI σ o k)))
    else if q.1 = 30 ∨ q.1 = 31 then .inl (cA 30, q.2, .inr (.inr (.inr (.inr fun k => pq base (rP σ o k)))))
    else .inl (cA q.1, q.2, .inl fun k => Int32.ofInt (rI σ o k))
def wsE (cA : Nat → ClassId) (base : Nat) (σ : Mem) : va_W := (List.range (rN σ)).map fun o => (base + o, cellE cA base σ o)
def tysE (cA : Nat → ClassId) : List (ClassId × FieldType) := [(cA 20, .int), (cA 21, .long), (cA 22, .char), (cA 30, .array .int)]
def kdO (o k : Nat) : Nat := match nthL layL o with
  | none => 9
  | some q => if q.1 < 11 then (fkT q.1 k).1 else if q.1 = 20 then 0 else if q.1 = 21 then 1 else if q.1 = 22 then 5 else 9
def kdR (kd : Nat) (z : Int) : Prop := match kd with
  | 0 => rng32 z
  | 1 => rng64 z
  | 2 => z = 0 ∨ z = 1
  | 5 => 0 ≤ z ∧ z < 65536
  | _ => True
def tgO (o k : Nat) : Option (Nat × Nat) := match nthL layL o with
  | none => none
  | some q => if q.1 < 11 then (match fkT q.1 k with
      | (3, t, n, _, _) => some (t, n)
      | (4, t, n, _, _) => some (t, n)
      | _ => none)
    else match innT q.1 with
      | some i => some (20, i)
      | none => none
def okI (σ : Mem) : Prop := ∀ o k, kdR (kdO o k) (rI σ o k)
def okP (σ : Mem) : Prop := ∀ o k t n, tgO o k = some (t, n) → rP σ o k = 0 ∨ (rP σ o k - 1 < rN σ ∧ nthL layL (rP σ o k - 1) = some (t, n))
def okZ (σ : Mem) : Prop := ∀ o, rN σ ≤ o → ∀ k, rI σ o k = 0 ∧ rP σ o k = 0
def sOk (o t k p : Nat) : Prop := match fkT t k with
  | (3, _) => p ≠ 0
  | (4, _, _, a, b) => p = o + a - b + 1
  | _ => True
def okS (σ : Mem) : Prop := rN σ = 159 ∧ ∀ o t n, nthL layL o = some (t, n) → (t < 11 → ∀ k, k < NF t → sOk o t k (rP σ o k)) ∧ ∀ i, innT t = some i → ∀ k, k < n → rP σ o k = o + 1 + k + 1
def okM (ph : Bool) (σ : Mem) : Prop := rN σ ≤ 159 ∧ okI σ ∧ okP σ ∧ okZ σ ∧ (ph = true → okS σ)
def okV (scr : Prop) (σ : Mem) : AV → Prop
  | .inl z => rng32 z
  | .inr (.inl z) => rng64 z
  | .inr (.inr none) => True
  | .inr (.inr (some (t, n, o))) => (t = 23 ∧ scr) ∨ t = 24 ∨ (o < rN σ ∧ nthL layL o = some (t, n))
theorem lay_len {o : Nat} {q : Nat × Nat} (h : nthL layL o = some q) : o < 159 := by
  have key : ∀ (l : List (Nat × Nat)) (i : Nat), nthL l i = some q → i < l.length := by
    intro l
    induction l with
    | nil => intro i h; cases h
    | cons a l ih =>
      intro i h
      cases i with
      | zero => exact Nat.succ_pos _
      | succ i => exact Nat.succ_lt_succ (ih i h)
  exact key _ _ h
theorem lay_some {o : Nat} (h : o < 159) : ∃ q, nthL layL o = some q := by
  have key : ∀ (l : List (Nat × Nat)) (i : Nat), i < l.length → ∃ q, nthL l i = some q := by
    intro l
    induction l with
    | nil => intro i h; exact absurd h (Nat.not_lt_zero i)
    | cons a l ih =>
      intro i h
      cases i with
      | zero => exact ⟨a, rfl⟩
      | succ i => exact ih i (Nat.lt_of_succ_lt_succ h)
  exact key layL o h
theorem lay_all {P : Nat × Nat → Bool} (h : layL.all P = true) {o : Nat} {q : Nat × Nat} (e : nthL layL o = some q) : P q = true := List.all_eq_true.mp h q (nthL_mem e)
theorem lay_sz {o : Nat} {q : Nat × Nat} (e : nthL layL o = some q) : q.2 ≤ 3700 ∧ (q.1 < 11 ∨ q.1 = 20 ∨ q.1 = 21 ∨ q.1 = 22 ∨ q.1 = 30 ∨ q.1 = 31) := by
  have h := lay_all (P := fun q => decide (q.2 ≤ 3700 ∧ (q.1 < 11 ∨ q.1 = 20 ∨ q.1 = 21 ∨ q.1 = 22 ∨ q.1 = 30 ∨ q.1 = 31))) (by decide +kernel) e
  simpa using h
theorem wsE_at {cA : Nat → ClassId} {base : Nat} {σ : Mem} {o : Nat} (h : o < rN σ) : (wsE cA base σ)[o]? = some (base + o, cellE cA base σ o) := by
  simp [wsE, h]
theorem wsE_len (cA : Nat → ClassId) (base : Nat) (σ : Mem) : (wsE cA base σ).length = rN σ := by simp [wsE]
theorem wsE_D {cA : Nat → ClassId} {base : Nat} {σ : Mem} : va_D (fun q => base ≤ q) (wsE cA base σ) := by
  refine ⟨fun i j p q hi hj e => ?_, fun k q hk => ?_⟩
  · have h1 : i < rN σ := by have := (List.getElem?_eq_some_iff.mp hi).1; rwa [wsE_len] at this
    have h2 : j < rN σ := by have := (List.getElem?_eq_some_iff.mp hj).1; rwa [wsE_len] at this
    rw [wsE_at h1] at hi
    rw [wsE_at h2] at hj
    cases hi
    cases hj
    simp only [] at e
    omega
  · have h1 : k < rN σ := by have := (List.getElem?_eq_some_iff.mp hk).1; rwa [wsE_len] at this
    rw [wsE_at h1] at hk
    cases hk
    exact Nat.le_add_right _ _
theorem cellE_same {cA : Nat → ClassId} {base : Nat} {σ σ' : Mem} {o : Nat} (h1 : ∀ k, rI σ' o k = rI σ o k) (h2 : ∀ k, rP σ' o k = rP σ o k) : cellE cA base σ' o = cellE cA base σ o := by
  unfold cellE fvV
  simp only [h1, h2]
theorem wsE_set {cA : Nat → ClassId} {base : Nat} {σ σ' : Mem} {o : Nat} {e : va_E} (hN : rN σ' = rN σ) (ho : ∀ a, a ≠ o → (∀ k, rI σ' a k = rI σ a k) ∧ ∀ k, rP σ' a k = rP σ a k) (he : cellE cA base σ' o = e) : (wsE cA base σ).set o (base + o, e) = wsE cA base σ' := by
  apply List.ext_getElem?
  intro i
  by_cases hi : i = o
  · subst hi
    by_cases hl : i < rN σ
    · rw [List.getElem?_set_self (by rw [wsE_len]; exact hl), wsE_at (by rw [hN]; exact hl), he]
    · rw [List.getElem?_eq_none (by rw [List.length_set, wsE_len]; omega), List.getElem?_eq_none (by rw [wsE_len, hN]; omega)]
  · rw [List.getElem?_set_ne (Ne.symm hi)]
    by_cases hl : i < rN σ
    · rw [wsE_at hl, wsE_at (by rw [hN]; exact hl), cellE_same (ho i hi).1 (ho i hi).2]
    · rw [List.getElem?_eq_none (by rw [wsE_len]; omega), List.getElem?_eq_none (by rw [wsE_len, hN]; omega)]
theorem wsE_push {cA : Nat → ClassId} {base : Nat} {σ σ' : Mem} {e : va_E} (hN : rN σ' = rN σ + 1) (ho : ∀ a, a < rN σ → (∀ k, rI σ' a k = rI σ a k) ∧ ∀ k, rP σ' a k = rP σ a k) (he : cellE cA base σ' (rN σ) = e) : wsE cA base σ ++ [(base + rN σ, e)] = wsE cA base σ' := by
  unfold wsE
  rw [hN, List.range_succ, List.map_append]
  congr 1
  · apply List.map_congr_left
    intro a ha
    have hl := List.mem_range.mp ha
    rw [cellE_same (ho a hl).1 (ho a hl).2]
  · simp [he]
-- the memory's own rows
theorem rI_wI (σ : Mem) (o k : Nat) (v : Int) (a b : Nat) : rI (wI σ o k v) a b = if a = o ∧ b = k then v else rI σ a b := rfl
theorem rP_wI (σ : Mem) (o k : Nat) (v : Int) (a b : Nat) : rP (wI σ o k v) a b = rP σ a b := rfl
theorem rN_wI (σ : Mem) (o k : Nat) (v : Int) : rN (wI σ o k v) = rN σ := rfl
theorem rI_wQ (σ : Mem) (o k v : Nat) (a b : Nat) : rI (wQ σ o k v) a b = rI σ a b := rfl
theorem rP_wQ (σ : Mem) (o k v : Nat) (a b : Nat) : rP (wQ σ o k v) a b = if a = o ∧ b = k then v + 1 else rP σ a b := rfl
theorem rN_wQ (σ : Mem) (o k v : Nat) : rN (wQ σ o k v) = rN σ := rfl
theorem rI_cpI (σ : Mem) (s sp d dp n a b : Nat) : rI (cpI σ s sp d dp n) a b = if a = d ∧ dp ≤ b ∧ b < dp + n then rI σ s (sp + (b - dp)) else rI σ a b := rfl
theorem rP_cpI (σ : Mem) (s sp d dp n a b : Nat) : rP (cpI σ s sp d dp n) a b = rP σ a b := rfl
theorem rN_cpI (σ : Mem) (s sp d dp n : Nat) : rN (cpI σ s sp d dp n) = rN σ := rfl
theorem okM_I {ph : Bool} {σ σ' : Mem} (h : okM ph σ) (hN : rN σ' = rN σ) (hP : ∀ a b, rP σ' a b = rP σ a b) (hI : okI σ') (hZ : ∀ o, rN σ ≤ o → ∀ k, rI σ' o k = rI σ o k) : okM ph σ' := by
  obtain ⟨h1, h2, h3, h4, h5⟩ := h
  refine ⟨by rw [hN]; exact h1, hI, fun o k t n ht => ?_, fun o ho k => ?_, fun hp => ?_⟩
  · rw [hP, hN]; exact h3 o k t n ht
  · rw [hN] at ho
    rw [hZ o ho k, hP]; exact h4 o ho k
  · obtain ⟨g1, g2⟩ := h5 hp
    refine ⟨by rw [hN]; exact g1, fun o t n ht => ⟨fun hlt k hk => ?_, fun i hi k hk => ?_⟩⟩
    · rw [hP]; exact (g2 o t n ht).1 hlt k hk
    · rw [hP]; exact (g2 o t n ht).2 i hi k hk
theorem okM_wI {ph : Bool} {σ : Mem} (h : okM ph σ) {o k : Nat} {v : Int} (hv : kdR (kdO o k) v) (ho : o < rN σ) : okM ph (wI σ o k v) := by
  refine okM_I h rfl (fun _ _ => rfl) (fun a b => ?_) (fun a ha b => ?_)
  · rw [rI_wI]
    by_cases e : a = o ∧ b = k
    · rw [if_pos e, e.1, e.2]; exact hv
    · rw [if_neg e]; exact h.2.1 a b
  · rw [rI_wI, if_neg (fun e => by omega)]
theorem okM_wQ {ph : Bool} {σ : Mem} (h : okM ph σ) {o k v t n : Nat} (ht : tgO o k = some (t, n)) (ho : o < rN σ) (hv : v < rN σ) (hl : nthL layL v = some (t, n)) (h3 : ph = true → ∀ q, nthL layL o = some q → q.1 < 11 ∧ (fkT q.1 k).1 = 3) : okM ph (wQ σ o k v) := by
  obtain ⟨h1, h2, h3', h4, h5⟩ := h
  refine ⟨h1, h2, fun a b t' n' e => ?_, fun a ha b => ?_, fun hp => ?_⟩
  · rw [rP_wQ, rN_wQ]
    by_cases q : a = o ∧ b = k
    · rw [if_pos q]
      obtain ⟨rfl, rfl⟩ := q
      rw [ht] at e
      cases e
      exact Or.inr ⟨hv, hl⟩
    · rw [if_neg q]; exact h3' a b t' n' e
  · rw [rN_wQ] at ha
    rw [rI_wQ, rP_wQ, if_neg (fun e => by omega)]
    exact h4 a ha b
  · obtain ⟨g1, g2⟩ := h5 hp
    refine ⟨g1, fun a t' n' e => ⟨fun hlt j hj => ?_, fun i hi j hj => ?_⟩⟩
    · rw [rP_wQ]
      by_cases q : a = o ∧ j = k
      · rw [if_pos q]
        obtain ⟨rfl, rfl⟩ := q
        have q2 := (h3 hp _ e).2
        unfold sOk
        split
        · next e3 => exact Nat.succ_ne_zero _
        · next e3 => rw [e3] at q2; cases q2
        · trivial
      · rw [if_neg q]; exact (g2 a t' n' e).1 hlt j hj
    · rw [rP_wQ]
      by_cases q : a = o ∧ j = k
      · obtain ⟨rfl, rfl⟩ := q
        have q1 := (h3 hp _ e).1
        exfalso
        unfold innT at hi
        simp only [] at q1
        split at hi
        · omega
        · omega
        · cases hi
      · rw [if_neg q]; exact (g2 a t' n' e).2 i hi j hj
theorem okM_cpI {ph : Bool} {σ : Mem} (h : okM ph σ) {s sp d dp n ls ld : Nat} (hs : nthL layL s = some (20, ls)) (hd : nthL layL d = some (20, ld)) (ho : d < rN σ) : okM ph (cpI σ s sp d dp n) := by
  refine okM_I h rfl (fun _ _ => rfl) (fun a b => ?_) (fun a ha b => ?_)
  · rw [rI_cpI]
    by_cases e : a = d ∧ dp ≤ b ∧ b < dp + n
    · rw [if_pos e, e.1]
      have h1 := h.2.1 s (sp + (b - dp))
      have k1 : kdO s (sp + (b - dp)) = 0 := by unfold kdO; rw [hs]; rfl
      have k2 : kdO d b = 0 := by unfold kdO; rw [hd]; rfl
      rw [k1] at h1
      rw [k2]
      exact h1
    · rw [if_neg e]; exact h.2.1 a b
  · rw [rI_cpI, if_neg (fun e => by omega)]
