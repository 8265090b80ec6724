/-! what a sum and a test are, as text: the next place and its code, or a fault and where it is -/
abbrev Res : Type := (Int × Nat) ⊕ (Nat × List Int)
def bnd (r : Res) (f : Nat → List Int → Res) : Res := match r with
  | .inl e => .inl e
  | .inr x => f x.1 x.2
/-- a row of parts that the signs of one kind join -/
def lpW (tp : List Int) (op : Nat → Int) (sub : Nat → Res) : Nat → Nat → List Int → Res
  | 0, q, C => .inr (q, C)
  | f + 1, q, C => if op q = 0 then .inr (q, C) else bnd (sub (nx tp q)) (fun q1 c1 => lpW tp op sub f q1 (C ++ c1 ++ [op q]))
def lpL (tp : List Int) (op : Nat → Int) (sub : Nat → Res) (q : Nat) : Res := bnd (sub q) (fun q1 c1 => lpW tp op sub tp.length q1 c1)
def oP (tp : List Int) (q : Nat) : Int := if sg tp q = 42 then 3 else if sg tp q = 47 then 4 else 0
def oS (tp : List Int) (q : Nat) : Int := if sg tp q = 43 then 1 else if sg tp q = 45 then 2 else 0
def oB (tp : List Int) (q : Nat) : Int := if wd tp q = 22 then 10 else 0
def oT (tp : List Int) (q : Nat) : Int := if wd tp q = 21 then 11 else 0
def oC (tp : List Int) (q : Nat) : Int := if sg tp q = 60 then 7 else if sg tp q = 62 then 8 else if sg tp q = 61 then 9 else 0
def sumP (tp : List Int) (pt : Nat → Res) : Nat → Res := lpL tp (oS tp) (lpL tp (oP tp) pt)
def tesP (tp : List Int) (fa : Nat → Res) : Nat → Res := lpL tp (oT tp) (lpL tp (oB tp) fa)
/-- the words that a rule of this kind knows (3 of a question) -/
def alw (k : Nat) (w : Int) : Bool := decide (w = 3) || decide (w = 4) || decide (w = 10) || decide (w = 11) || (decide (12 ≤ w ∧ w ≤ 14) && decide (k = 0)) || (decide (w = 15) && decide (k = 1 ∨ k = 3)) || (decide (w = 16) && decide (k = 2)) || (decide (w = 17 ∨ w = 18) && decide (k = 3))
def ptc (w : Int) : Int := if w = 3 then 40 else if w = 4 then 41 else 32 + w
/-- a sign that is asked for -/
def asg (tp : List Int) (v : Int) (q : Nat) (f : Nat → Res) : Res := if sg tp q = v then f (nx tp q) else .inl (1, q)
def parS (tp : List Int) (k : Nat) (sub : Option (Nat → Res)) (q : Nat) : Res :=
  if kd tp q = 2 then (if 4 < de tp q - q then .inl (1, q + 4) else .inr (nx tp q, [1000 + nu tp q]))
  else if sg tp q = 40 then (match sub with
    | none => .inl (4, q)
    | some pt => bnd (sumP tp pt (nx tp q)) (fun q1 c1 => asg tp 41 q1 (fun q2 => .inr (q2, c1))))
  else if wd tp q = 25 ∨ wd tp q = 26 then (if sg tp (nx tp q) = 40 then (match sub with
    | none => .inl (4, nx tp q)
    | some pt => bnd (sumP tp pt (nx tp (nx tp q))) (fun q1 c1 => asg tp 44 q1 (fun q2 => bnd (sumP tp pt q2) (fun q3 c3 => asg tp 41 q3 (fun q4 => .inr (q4, c1 ++ c3 ++ [if wd tp q = 25 then 5 else 6])))))) else .inl (1, nx tp q))
  else if k = 3 ∧ (wd tp q = 19 ∨ wd tp q = 20) then (match sub with
    | none => .inl (4, q)
    | some pt => bnd (pt (nx tp q)) (fun q1 c1 => .inr (q1, c1 ++ [if wd tp q = 19 then 60 else 61])))
  else if alw k (wd tp q) then .inr (nx tp q, [ptc (wd tp q)])
  else .inl (1, q)
/-- a part, with n more to open at the most -/
def parL (tp : List Int) (k : Nat) : Nat → Nat → Res
  | 0 => parS tp k none
  | n + 1 => parS tp k (some (parL tp k n))
def sumL (tp : List Int) (k n : Nat) : Nat → Res := sumP tp (parL tp k n)
def facS (tp : List Int) (k n : Nat) (sub : Option (Nat → Res)) (q : Nat) : Res :=
  if wd tp q = 23 then (match sub with
    | none => .inl (4, q)
    | some fa => bnd (fa (nx tp q)) (fun q1 c1 => .inr (q1, c1 ++ [12])))
  else if wd tp q = 24 then .inr (nx tp q, [13])
  else if sg tp q = 91 then (match sub with
    | none => .inl (4, q)
    | some fa => bnd (tesP tp fa (nx tp q)) (fun q1 c1 => asg tp 93 q1 (fun q2 => .inr (q2, c1))))
  else bnd (sumL tp k n q) (fun q1 c1 => if oC tp q1 = 0 then .inl (1, q1) else bnd (sumL tp k n (nx tp q1)) (fun q2 c2 => .inr (q2, c1 ++ c2 ++ [oC tp q1])))
def facL (tp : List Int) (k : Nat) : Nat → Nat → Res
  | 0 => facS tp k 0 none
  | n + 1 => facS tp k (n + 1) (some (facL tp k n))
def tesL (tp : List Int) (k n : Nat) : Nat → Res := tesP tp (facL tp k n)
section PARSE
variable {tp : List Int}
theorem bnd_i {r : Res} {f : Nat → List Int → Res} {q : Nat} {c : List Int} (h : bnd r f = .inr (q, c)) : ∃ q1 c1, r = .inr (q1, c1) ∧ f q1 c1 = .inr (q, c) := by
  match r, h with
  | .inr (q1, c1), h => exact ⟨q1, c1, rfl, h⟩
theorem bnd_l {r : Res} {f : Nat → List Int → Res} {e : Int × Nat} (h : bnd r f = .inl e) : r = .inl e ∨ ∃ q1 c1, r = .inr (q1, c1) ∧ f q1 c1 = .inl e := by
  match r, h with
  | .inl e1, h => exact Or.inl h
  | .inr (q1, c1), h => exact Or.inr ⟨q1, c1, rfl, h⟩
theorem asg_i {v : Int} {q : Nat} {f : Nat → Res} {x : Nat × List Int} (h : asg tp v q f = .inr x) : sg tp q = v ∧ f (nx tp q) = .inr x := by
  unfold asg at h
  split at h
  · next e => exact ⟨e, h⟩
  · cases h
theorem asg_l {v : Int} {q : Nat} {f : Nat → Res} {e : Int × Nat} (h : asg tp v q f = .inl e) : (sg tp q ≠ v ∧ e = (1, q)) ∨ (sg tp q = v ∧ f (nx tp q) = .inl e) := by
  unfold asg at h
  split at h
  · next c => exact Or.inr ⟨c, h⟩
  · next c => cases h; exact Or.inl ⟨c, rfl⟩
/-- whatever is read lies behind: each number of its code by a byte of its own -/
def Good (tp : List Int) (sub : Nat → Res) : Prop := ∀ q q' c, q ≤ tp.length → sub q = .inr (q', c) → q < q' ∧ q + c.length ≤ q' ∧ St tp q'
theorem nx_s {q : Nat} {v : Int} (h : sg tp q = v) (hv : v ≠ -1) : q < nx tp q ∧ St tp (nx tp q) ∧ q < tp.length := by
  have k := (sg_3 h hv).1
  exact ⟨nx_lt ⟨by omega, by omega⟩, (nx_p (Nat.le_of_lt (kd_lt (by omega)))).2, kd_lt (by omega)⟩
theorem nx_w {q : Nat} {v : Int} (h : wd tp q = v) (hv : v ≠ -1) : q < nx tp q ∧ St tp (nx tp q) ∧ q < tp.length := by
  have k := wd_1 (by rw [h]; exact hv)
  exact ⟨nx_lt ⟨by omega, by omega⟩, (nx_p (Nat.le_of_lt (kd_lt (by omega)))).2, kd_lt (by omega)⟩
/-- the signs that join -/
def Ops (tp : List Int) (op : Nat → Int) : Prop := ∀ q, op q ≠ 0 → q < nx tp q ∧ St tp (nx tp q) ∧ q < tp.length
theorem Ops_P : Ops tp (oP tp) := fun q h => by
  unfold oP at h
  split at h
  · next e => exact nx_s e (by decide)
  · split at h
    · next e => exact nx_s e (by decide)
    · exact absurd rfl h
theorem Ops_S : Ops tp (oS tp) := fun q h => by
  unfold oS at h
  split at h
  · next e => exact nx_s e (by decide)
  · split at h
    · next e => exact nx_s e (by decide)
    · exact absurd rfl h
theorem Ops_B : Ops tp (oB tp) := fun q h => by
  unfold oB at h
  split at h
  · next e => exact nx_w e (by decide)
  · exact absurd rfl h
theorem Ops_T : Ops tp (oT tp) := fun q h => by
  unfold oT at h
  split at h
  · next e => exact nx_w e (by decide)
  · exact absurd rfl h
theorem Ops_C : Ops tp (oC tp) := fun q h => by
  unfold oC at h
  split at h
  · next e => exact nx_s e (by decide)
  · split at h
    · next e => exact nx_s e (by decide)
    · split at h
      · next e => exact nx_s e (by decide)
      · exact absurd rfl h
theorem lpW_g {op : Nat → Int} {sub : Nat → Res} (ho : Ops tp op) (hs : Good tp sub) : ∀ (f q : Nat) (C : List Int) (q' : Nat) (c : List Int), St tp q → lpW tp op sub f q C = .inr (q', c) → ∃ c2, c = C ++ c2 ∧ q ≤ q' ∧ q + c2.length ≤ q' ∧ St tp q'
  | 0, q, C, q', c, hq, h => by
    cases h
    exact ⟨[], by rw [List.append_nil], Nat.le_refl _, Nat.le_refl _, hq⟩
  | f + 1, q, C, q', c, hq, h => by
    unfold lpW at h
    split at h
    · cases h
      exact ⟨[], by rw [List.append_nil], Nat.le_refl _, Nat.le_refl _, hq⟩
    · next e =>
      obtain ⟨q1, c1, h1, h2⟩ := bnd_i h
      obtain ⟨n1, n2, n3⟩ := ho q e
      obtain ⟨g1, g2, g3⟩ := hs _ _ _ n2.1 h1
      obtain ⟨c2, e2, a1, a2, a3⟩ := lpW_g ho hs f q1 _ q' c g3 h2
      refine ⟨c1 ++ [op q] ++ c2, by rw [e2]; simp only [List.append_assoc], by omega, ?_, a3⟩
      simp only [List.length_append, List.length_singleton]
      omega
theorem lpL_g {op : Nat → Int} {sub : Nat → Res} (ho : Ops tp op) (hs : Good tp sub) : Good tp (lpL tp op sub) := fun q q' c hq h => by
  obtain ⟨q1, c1, h1, h2⟩ := bnd_i h
  obtain ⟨g1, g2, g3⟩ := hs _ _ _ hq h1
  obtain ⟨c2, e2, a1, a2, a3⟩ := lpW_g ho hs _ q1 c1 q' c g3 h2
  refine ⟨by omega, ?_, a3⟩
  rw [e2, List.length_append]; omega
theorem sumP_g {pt : Nat → Res} (h : Good tp pt) : Good tp (sumP tp pt) := lpL_g Ops_S (lpL_g Ops_P h)
theorem tesP_g {fa : Nat → Res} (h : Good tp fa) : Good tp (tesP tp fa) := lpL_g Ops_T (lpL_g Ops_B h)
theorem alw_n {k : Nat} {w : Int} (h : alw k w = true) : w = 3 ∨ w = 4 ∨ 10 ≤ w ∧ w ≤ 18 := by
  unfold alw at h
  simp only [Bool.or_eq_true, Bool.and_eq_true, decide_eq_true_iff] at h
  omega
theorem parS_g {k : Nat} {sub : Option (Nat → Res)} (h : ∀ pt, sub = some pt → Good tp pt) : Good tp (parS tp k sub) := fun q q' c hq he => by
  unfold parS at he
  split at he
  · next e =>
    split at he
    · cases he
    · cases he
      have := nx_lt (tp := tp) (q := q) ⟨by omega, by omega⟩
      exact ⟨this, this, (nx_p hq).2⟩
  · split at he
    · next e =>
      obtain ⟨n1, n2, n3⟩ := nx_s e (by decide)
      split at he
      · cases he
      · next pt =>
        obtain ⟨q1, c1, h1, h2⟩ := bnd_i he
        obtain ⟨a1, a2⟩ := asg_i h2
        cases a2
        obtain ⟨g1, g2, g3⟩ := sumP_g (h pt rfl) _ _ _ n2.1 h1
        obtain ⟨m1, m2, m3⟩ := nx_s a1 (by decide)
        exact ⟨by omega, by omega, m2⟩
    · split at he
      · next e =>
        obtain ⟨n1, n2, n3⟩ : q < nx tp q ∧ St tp (nx tp q) ∧ q < tp.length := e.elim (fun e => nx_w e (by decide)) (fun e => nx_w e (by decide))
        split at he
        · next e2 =>
          obtain ⟨l1, l2, l3⟩ := nx_s e2 (by decide)
          split at he
          · cases he
          · next pt =>
            obtain ⟨q1, c1, h1, h2⟩ := bnd_i he
            obtain ⟨a1, a2⟩ := asg_i h2
            obtain ⟨g1, g2, g3⟩ := sumP_g (h pt rfl) _ _ _ l2.1 h1
            obtain ⟨m1, m2, m3⟩ := nx_s a1 (by decide)
            obtain ⟨q3, c3, h3, h4⟩ := bnd_i a2
            obtain ⟨a3, a4⟩ := asg_i h4
            obtain ⟨g4, g5, g6⟩ := sumP_g (h pt rfl) _ _ _ m2.1 h3
            obtain ⟨m4, m5, m6⟩ := nx_s a3 (by decide)
            cases a4
            refine ⟨by omega, ?_, m5⟩
            simp only [List.length_append, List.length_singleton]
            omega
        · cases he
      · split at he
        · next e =>
          obtain ⟨n1, n2, n3⟩ : q < nx tp q ∧ St tp (nx tp q) ∧ q < tp.length := e.2.elim (fun e => nx_w e (by decide)) (fun e => nx_w e (by decide))
          split at he
          · cases he
          · next pt =>
            obtain ⟨q1, c1, h1, h2⟩ := bnd_i he
            cases h2
            obtain ⟨g1, g2, g3⟩ := h pt rfl _ _ _ n2.1 h1
            refine ⟨by omega, ?_, g3⟩
            simp only [List.length_append, List.length_singleton]
            omega
        · split at he
          · next e =>
            cases he
            obtain ⟨n1, n2, n3⟩ := nx_w (tp := tp) (q := q) rfl (by have := alw_n e; omega)
            exact ⟨n1, n1, n2⟩
          · cases he
theorem parL_g (k : Nat) : ∀ n, Good tp (parL tp k n)
  | 0 => parS_g (fun _ h => by cases h)
  | n + 1 => parS_g (fun _ h => by cases h; exact parL_g k n)
theorem sumL_g (k n : Nat) : Good tp (sumL tp k n) := sumP_g (parL_g k n)
theorem facS_g {k n : Nat} {sub : Option (Nat → Res)} (h : ∀ pt, sub = some pt → Good tp pt) : Good tp (facS tp k n sub) := fun q q' c hq he => by
  unfold facS at he
  split at he
  · next e =>
    obtain ⟨n1, n2, n3⟩ := nx_w e (by decide)
    split at he
    · cases he
    · next fa =>
      obtain ⟨q1, c1, h1, h2⟩ := bnd_i he
      cases h2
      obtain ⟨g1, g2, g3⟩ := h fa rfl _ _ _ n2.1 h1
      refine ⟨by omega, ?_, g3⟩
      simp only [List.length_append, List.length_singleton]
      omega
  · split at he
    · next e =>
      obtain ⟨n1, n2, n3⟩ := nx_w e (by decide)
      cases he
      exact ⟨n1, n1, n2⟩
    · split at he
      · next e =>
        obtain ⟨n1, n2, n3⟩ := nx_s e (by decide)
        split at he
        · cases he
        · next fa =>
          obtain ⟨q1, c1, h1, h2⟩ := bnd_i he
          obtain ⟨a1, a2⟩ := asg_i h2
          cases a2
          obtain ⟨g1, g2, g3⟩ := tesP_g (h fa rfl) _ _ _ n2.1 h1
          obtain ⟨m1, m2, m3⟩ := nx_s a1 (by decide)
          exact ⟨by omega, by omega, m2⟩
      · obtain ⟨q1, c1, h1, h2⟩ := bnd_i he
        split at h2
        · cases h2
        · next e =>
          obtain ⟨n1, n2, n3⟩ := Ops_C _ e
          obtain ⟨q2, c2, h3, h4⟩ := bnd_i h2
          cases h4
          obtain ⟨g1, g2, g3⟩ := sumL_g k n _ _ _ hq h1
          obtain ⟨g4, g5, g6⟩ := sumL_g k n _ _ _ n2.1 h3
          refine ⟨by omega, ?_, g6⟩
          simp only [List.length_append, List.length_singleton]
          omega
theorem facL_g (k : Nat) : ∀ n, Good tp (facL tp k n)
  | 0 => facS_g (fun _ h => by cases h)
  | n + 1 => facS_g (fun _ h => by cases h; exact facL_g k n)
theorem tesL_g (k n : Nat) : Good tp (tesL tp k n) := tesP_g (facL_g k n)
/-! codes keep their kinds -/
def Tys (k m : Nat) (b : Bool) (sub : Nat → Res) : Prop := ∀ q q' c ts, sub q = .inr (q', c) → ts.length + m ≤ 60 → tys k c ts = some (b :: ts)
theorem tys_app {k : Nat} : ∀ (a b : List Int) (ts : List Bool), tys k (a ++ b) ts = (tys k a ts).bind (tys k b)
  | [], b, ts => rfl
  | x :: a, b, ts => by
    show (ty1 k x ts).bind (tys k (a ++ b)) = ((ty1 k x ts).bind (tys k a)).bind (tys k b)
    cases ty1 k x ts with
    | none => rfl
    | some us => exact tys_app a b us
theorem tys_1 {k : Nat} (c : Int) (ts : List Bool) : tys k [c] ts = ty1 k c ts := by
  show (ty1 k c ts).bind (tys k []) = _
  cases ty1 k c ts <;> rfl
theorem lpW_t {k m : Nat} {b : Bool} {op : Nat → Int} {sub : Nat → Res} (ho : ∀ q ts, op q ≠ 0 → ty1 k (op q) (b :: b :: ts) = some (b :: ts)) (hs : Tys k m b sub) : ∀ (f q : Nat) (C : List Int) (q' : Nat) (c : List Int) (ts : List Bool), lpW tp op sub f q C = .inr (q', c) → ts.length + (m + 1) ≤ 60 → tys k C ts = some (b :: ts) → tys k c ts = some (b :: ts)
  | 0, q, C, q', c, ts, h, hl, hC => by cases h; exact hC
  | f + 1, q, C, q', c, ts, h, hl, hC => by
    unfold lpW at h
    split at h
    · cases h; exact hC
    · next e =>
      obtain ⟨q1, c1, h1, h2⟩ := bnd_i h
      refine lpW_t ho hs f q1 _ q' c ts h2 hl ?_
      rw [tys_app, tys_app, hC, Option.bind_some, hs _ _ _ _ h1 (by rw [List.length_cons]; omega), Option.bind_some, tys_1]
      exact ho q ts e
theorem lpL_t {k m : Nat} {b : Bool} {op : Nat → Int} {sub : Nat → Res} (ho : ∀ q ts, op q ≠ 0 → ty1 k (op q) (b :: b :: ts) = some (b :: ts)) (hs : Tys k m b sub) : Tys k (m + 1) b (lpL tp op sub) := fun q q' c ts h hl => by
  obtain ⟨q1, c1, h1, h2⟩ := bnd_i h
  exact lpW_t ho hs _ q1 c1 q' c ts h2 hl (hs _ _ _ _ h1 (by omega))
theorem ty_P {k : Nat} (q : Nat) (ts : List Bool) (h : oP tp q ≠ 0) : ty1 k (oP tp q) (false :: false :: ts) = some (false :: ts) := by
  unfold oP at h ⊢
  split at h
  · next e => rw [if_pos e]; rfl
  · next e =>
    split at h
    · next e2 => rw [if_neg e, if_pos e2]; rfl
    · exact absurd rfl h
theorem ty_S {k : Nat} (q : Nat) (ts : List Bool) (h : oS tp q ≠ 0) : ty1 k (oS tp q) (false :: false :: ts) = some (false :: ts) := by
  unfold oS at h ⊢
  split at h
  · next e => rw [if_pos e]; rfl
  · next e =>
    split at h
    · next e2 => rw [if_neg e, if_pos e2]; rfl
    · exact absurd rfl h
theorem ty_B {k : Nat} (q : Nat) (ts : List Bool) (h : oB tp q ≠ 0) : ty1 k (oB tp q) (true :: true :: ts) = some (true :: ts) := by
  unfold oB at h ⊢
  split at h
  · next e => rw [if_pos e]; rfl
  · exact absurd rfl h
theorem ty_T {k : Nat} (q : Nat) (ts : List Bool) (h : oT tp q ≠ 0) : ty1 k (oT tp q) (true :: true :: ts) = some (true :: ts) := by
  unfold oT at h ⊢
  split at h
  · next e => rw [if_pos e]; rfl
  · exact absurd rfl h
theorem ty_C {k : Nat} (q : Nat) (ts : List Bool) (h : oC tp q ≠ 0) : ty1 k (oC tp q) (false :: false :: ts) = some (true :: ts) := by
  unfold oC at h ⊢
  split at h
  · next e => rw [if_pos e]; rfl
  · next e =>
    split at h
    · next e2 => rw [if_neg e, if_pos e2]; rfl
    · next e2 =>
      split at h
      · next e3 => rw [if_neg e, if_neg e2, if_pos e3]; rfl
      · exact absurd rfl h
theorem sumP_t {k m : Nat} {pt : Nat → Res} (h : Tys k m false pt) : Tys k (m + 2) false (sumP tp pt) := lpL_t (fun q ts e => ty_S q ts e) (lpL_t (fun q ts e => ty_P q ts e) h)
theorem tesP_t {k m : Nat} {pt : Nat → Res} (h : Tys k m true pt) : Tys k (m + 2) true (tesP tp pt) := lpL_t (fun q ts e => ty_T q ts e) (lpL_t (fun q ts e => ty_B q ts e) h)
theorem ty_n {k : Nat} {c : Int} {ts : List Bool} (h : 1000 ≤ c ∧ c < 11000) (hl : ts.length < 60) : ty1 k c ts = some (false :: ts) := by
  unfold ty1
  rw [if_pos h.1, if_pos ⟨h.2, hl⟩]
theorem ty_w {k : Nat} {w : Int} {ts : List Bool} (h : alw k w = true) (hl : ts.length < 60) : ty1 k (ptc w) ts = some (false :: ts) := by
  have hn := alw_n h
  have e : 40 ≤ ptc w ∧ ptc w < 51 ∧ (ptc w = 48 → w = 16) := by unfold ptc; split <;> (try split) <;> omega
  have hk : ptc w = 48 → k = 2 := fun c => by
    have h16 := e.2.2 c
    unfold alw at h
    simp only [Bool.or_eq_true, Bool.and_eq_true, decide_eq_true_iff] at h
    omega
  unfold ty1
  rw [if_neg (by omega), if_neg (by omega), if_pos e.1, if_pos ⟨e.2.1, hk, hl⟩]
theorem parS_t {k m : Nat} {sub : Option (Nat → Res)} (hm : 1 ≤ m) (h : ∀ pt, sub = some pt → ∃ m2, m2 + 3 ≤ m ∧ Tys k m2 false pt) : Tys k m false (parS tp k sub) := fun q q' c ts he hl => by
  unfold parS at he
  split at he
  · next e =>
    split at he
    · cases he
    · cases he
      have := nu_r (tp := tp) (q := q) (Nat.le_of_lt (kd_lt (by omega)))
      rw [tys_1]
      exact ty_n ⟨by omega, by omega⟩ (by omega)
  · split at he
    · split at he
      · cases he
      · next pt =>
        obtain ⟨m2, hm2, ht⟩ := h pt rfl
        obtain ⟨q1, c1, h1, h2⟩ := bnd_i he
        obtain ⟨a1, a2⟩ := asg_i h2
        cases a2
        exact sumP_t ht _ _ _ _ h1 (by omega)
    · split at he
      · split at he
        · split at he
          · cases he
          · next pt =>
            obtain ⟨m2, hm2, ht⟩ := h pt rfl
            obtain ⟨q1, c1, h1, h2⟩ := bnd_i he
            obtain ⟨a1, a2⟩ := asg_i h2
            obtain ⟨q3, c3, h3, h4⟩ := bnd_i a2
            obtain ⟨a3, a4⟩ := asg_i h4
            cases a4
            rw [tys_app, tys_app, sumP_t ht _ _ _ _ h1 (by omega), Option.bind_some, sumP_t ht _ _ _ _ h3 (by rw [List.length_cons]; omega), Option.bind_some, tys_1]
            split <;> rfl
        · cases he
      · split at he
        · next e =>
          split at he
          · cases he
          · next pt =>
            obtain ⟨m2, hm2, ht⟩ := h pt rfl
            obtain ⟨q1, c1, h1, h2⟩ := bnd_i he
            cases h2
            rw [tys_app, ht _ _ _ _ h1 (by omega), Option.bind_some, tys_1, e.1]
            split <;> rfl
        · split at he
          · next e =>
            cases he
            rw [tys_1]
            exact ty_w e (by omega)
          · cases he
theorem parL_t (k : Nat) : ∀ n, Tys k (3 * n + 1) false (parL tp k n)
  | 0 => parS_t (by omega) (fun _ h => by cases h)
  | n + 1 => parS_t (by omega) (fun _ h => by cases h; exact ⟨3 * n + 1, by omega, parL_t k n⟩)
theorem sumL_t (k n : Nat) : Tys k (3 * n + 3) false (sumL tp k n) := sumP_t (parL_t k n)
theorem facS_t {k n m : Nat} {sub : Option (Nat → Res)} (hm : 3 * n + 4 ≤ m) (h : ∀ pt, sub = some pt → ∃ m2, m2 + 2 ≤ m ∧ Tys k m2 true pt) : Tys k m true (facS tp k n sub) := fun q q' c ts he hl => by
  unfold facS at he
  split at he
  · split at he
    · cases he
    · next fa =>
      obtain ⟨m2, hm2, ht⟩ := h fa rfl
      obtain ⟨q1, c1, h1, h2⟩ := bnd_i he
      cases h2
      rw [tys_app, ht _ _ _ _ h1 (by omega), Option.bind_some, tys_1]
      rfl
  · split at he
    · cases he
      rw [tys_1]
      show (if ts.length < 60 then some (true :: ts) else none) = _
      rw [if_pos (by omega)]
    · split at he
      · split at he
        · cases he
        · next fa =>
          obtain ⟨m2, hm2, ht⟩ := h fa rfl
          obtain ⟨q1, c1, h1, h2⟩ := bnd_i he
          obtain ⟨a1, a2⟩ := asg_i h2
          cases a2
          exact tesP_t ht _ _ _ _ h1 (by omega)
      · obtain ⟨q1, c1, h1, h2⟩ := bnd_i he
        split at h2
        · cases h2
        · next e =>
          obtain ⟨q2, c2, h3, h4⟩ := bnd_i h2
          cases h4
          rw [tys_app, tys_app, sumL_t k n _ _ _ _ h1 (by omega), Option.bind_some, sumL_t k n _ _ _ _ h3 (by rw [List.length_cons]; omega), Option.bind_some, tys_1]
          exact ty_C _ _ e
theorem facL_t (k : Nat) : ∀ n, Tys k (3 * n + 4) true (facL tp k n)
  | 0 => facS_t (by omega) (fun _ h => by cases h)
  | n + 1 => facS_t (by omega) (fun _ h => by cases h; exact ⟨3 * n + 4, by omega, facL_t k n⟩)
theorem tesL_t (k n : Nat) : Tys k (3 * n + 6) true (tesL tp k n) := tesP_t (facL_t k n)
theorem sumL_ok {k n q q' : Nat} {c : List Int} (hn : n ≤ 6) (h : sumL tp k n q = .inr (q', c)) : Cok k c false := sumL_t k n _ _ _ [] h (by show 0 + _ ≤ 60; omega)
theorem tesL_ok {k n q q' : Nat} {c : List Int} (hn : n ≤ 6) (h : tesL tp k n q = .inr (q', c)) : Cok k c true := tesL_t k n _ _ _ [] h (by show 0 + _ ≤ 60; omega)
end PARSE
