/-! what both sides come to: codes, their numbers; the ring, a minute -/
abbrev Tab : Type := Nat × Nat × (Nat → Int) × (Nat → Int) × (Nat → List Int)
def tN (T : Tab) : Nat := T.1
def tG (T : Tab) : Nat := T.2.1
def tW (T : Tab) : Nat → Int := T.2.2.1
def tH (T : Tab) : Nat → Int := T.2.2.2.1
def tC (T : Tab) : Nat → List Int := T.2.2.2.2
def tWet (T : Tab) (k : Nat) (v : Int) : Tab := (T.1, T.2.1, (fun j => if j = k then v else T.2.2.1 j), T.2.2.2)
def upW (w : Nat → Int) (i : Nat) (v : Int) : Nat → Int := fun j => if j = i then v else w j
theorem upW_s (w : Nat → Int) (i : Nat) (v : Int) : upW w i v i = v := if_pos rfl
theorem upW_o {w : Nat → Int} {i j : Nat} {v : Int} (h : j ≠ i) : upW w i v j = w j := if_neg h
def clp (v : Int) : Int := if 1000000 < v then 1000000 else if v < -1000000 then -1000000 else v
def cut (v : Int) : Int := if v < 0 then 0 else if 99 < v then 99 else v
/-- the greatest whole number not above a / b, 0 by 0 -/
def flo (a b : Int) : Int := if b = 0 then 0 else if Int.tdiv a b * b = a then Int.tdiv a b else if (a < 0 ↔ b < 0) then Int.tdiv a b else Int.tdiv a b - 1
def jn (c a b : Int) : Int := if c = 1 then clp (a + b) else if c = 2 then clp (a - b) else if c = 3 then clp (a * b) else if c = 4 then flo a b else if c = 5 then (if a < b then a else b) else if c = 6 then (if b < a then a else b) else if c = 7 then (if a < b then 1 else 0) else if c = 8 then (if b < a then 1 else 0) else if c = 9 then (if a = b then 1 else 0) else if c = 10 then a * b else if 0 < a + b then 1 else 0
/-- one cell of a code on a pile -/
def ev1 (kn : Int → Int) (un : Int → Int → Int) (c : Int) (st : List Int) : List Int :=
  if 1000 ≤ c then (c - 1000) :: st
  else if 60 ≤ c then (match st with | v :: r => un (c - 60) v :: r | [] => [])
  else if 40 ≤ c then kn (c - 40) :: st
  else if c = 13 then 1 :: st
  else if c = 12 then (match st with | v :: r => (1 - v) :: r | [] => [])
  else match st with
    | b :: a :: r => jn c a b :: r
    | _ => []
def evs (kn : Int → Int) (un : Int → Int → Int) : List Int → List Int → List Int
  | [], st => st
  | c :: cs, st => evs kn un cs (ev1 kn un c st)
def val (kn : Int → Int) (un : Int → Int → Int) (cs : List Int) : Int := (evs kn un cs []).headD 0
/-- what kinds lie on the pile (true: a test's), 60 high at the most -/
def ty1 (k : Nat) (c : Int) (ts : List Bool) : Option (List Bool) :=
  if 1000 ≤ c then (if c < 11000 ∧ ts.length < 60 then some (false :: ts) else none)
  else if 60 ≤ c then (match ts with | false :: r => if c < 62 ∧ k = 3 then some (false :: r) else none | _ => none)
  else if 40 ≤ c then (if c < 51 ∧ (c = 48 → k = 2) ∧ ts.length < 60 then some (false :: ts) else none)
  else if c = 13 then (if ts.length < 60 then some (true :: ts) else none)
  else if c = 12 then (match ts with | true :: r => some (true :: r) | _ => none)
  else match ts with
    | false :: false :: r => if 1 ≤ c ∧ c ≤ 6 then some (false :: r) else if 7 ≤ c ∧ c ≤ 9 then some (true :: r) else none
    | true :: true :: r => if c = 10 ∨ c = 11 then some (true :: r) else none
    | _ => none
def tys (k : Nat) : List Int → List Bool → Option (List Bool)
  | [], ts => some ts
  | c :: cs, ts => (ty1 k c ts).bind (tys k cs)
def tyv : List Bool → List Int → Prop
  | [], [] => True
  | t :: ts, v :: vs => (t = true → v = 0 ∨ v = 1) ∧ (-1000000 ≤ v ∧ v ≤ 1000000) ∧ tyv ts vs
  | _, _ => False
def Cok (k : Nat) (cs : List Int) (b : Bool) : Prop := tys k cs [] = some [b]
theorem tyv_len : ∀ {ts : List Bool} {vs : List Int}, tyv ts vs → vs.length = ts.length
  | [], [], _ => rfl
  | _ :: _, _ :: _, h => congrArg (· + 1) (tyv_len h.2.2)
  | [], _ :: _, h => h.elim
  | _ :: _, [], h => h.elim
theorem clp_r (v : Int) : -1000000 ≤ clp v ∧ clp v ≤ 1000000 := by unfold clp; split <;> (try split) <;> omega
theorem flo_r {a b : Int} (ha : -1000000 ≤ a ∧ a ≤ 1000000) : -1000000 ≤ flo a b ∧ flo a b ≤ 1000000 := by
  unfold flo
  split
  · omega
  have h1 : (Int.tdiv a b).natAbs ≤ a.natAbs := Int.natAbs_tdiv_le_natAbs a b
  split
  · omega
  · split
    · omega
    · next h2 h3 =>
      by_cases e : (Int.tdiv a b).natAbs = a.natAbs ∧ a ≠ 0
      · exfalso
        have e0 : (Int.tdiv a b).natAbs = a.natAbs / b.natAbs := Int.natAbs_tdiv a b
        rw [e0] at e
        have hb : b.natAbs = 1 := by
          rcases Nat.lt_or_ge b.natAbs 2 with hl | hl
          · omega
          · have := Nat.div_lt_self (n := a.natAbs) (by omega) hl
            omega
        have : b = 1 ∨ b = -1 := by omega
        rcases this with rfl | rfl
        · apply h2; rw [Int.tdiv_one]; omega
        · apply h2; rw [Int.tdiv_neg, Int.tdiv_one]; omega
      · by_cases ha0 : a = 0
        · subst ha0
          exact absurd (by simp) h2
        · omega
theorem jn_r {c a b : Int} (ha : -1000000 ≤ a ∧ a ≤ 1000000) (hb : -1000000 ≤ b ∧ b ≤ 1000000) (hc : c ≠ 10) : -1000000 ≤ jn c a b ∧ jn c a b ≤ 1000000 := by
  unfold jn
  have h1 := clp_r (a + b)
  have h2 := clp_r (a - b)
  have h3 := clp_r (a * b)
  have h4 := flo_r (b := b) ha
  repeat' split
  all_goals omega
/-- a typed pile stays typed -/
theorem ev1_ty {k : Nat} {kn : Int → Int} {un : Int → Int → Int} (hk : ∀ p, 0 ≤ p → p < 11 → -1000000 ≤ kn p ∧ kn p ≤ 1000000) (hu : ∀ p v, -1000000 ≤ v → v ≤ 1000000 → -1000000 ≤ un p v ∧ un p v ≤ 1000000) {c : Int} {ts ts' : List Bool} {st : List Int} (h : ty1 k c ts = some ts') (hst : tyv ts st) : tyv ts' (ev1 kn un c st) := by
  unfold ty1 at h
  unfold ev1
  split at h
  · next h1 =>
    rw [if_pos h1]
    split at h
    · cases h
      exact ⟨fun q => (by cases q), by omega, hst⟩
    · cases h
  · next h1 =>
    rw [if_neg h1]
    split at h
    · next h2 =>
      rw [if_pos h2]
      split at h
      · split at h
        · cases h
          match st, hst with
          | v :: r, hst => exact ⟨fun q => (by cases q), hu _ _ hst.2.1.1 hst.2.1.2, hst.2.2⟩
        · cases h
      · cases h
    · next h2 =>
      rw [if_neg h2]
      split at h
      · next h3 =>
        rw [if_pos h3]
        split at h
        · cases h
          exact ⟨fun q => (by cases q), hk _ (by omega) (by omega), hst⟩
        · cases h
      · next h3 =>
        rw [if_neg h3]
        split at h
        · next h4 =>
          rw [if_pos h4]
          split at h
          · cases h
            exact ⟨fun _ => Or.inr rfl, by omega, hst⟩
          · cases h
        · next h4 =>
          rw [if_neg h4]
          split at h
          · next h5 =>
            rw [if_pos h5]
            split at h
            · cases h
              match st, hst with
              | v :: r, hst =>
                have := hst.1 rfl
                exact ⟨fun _ => by show 1 - v = 0 ∨ 1 - v = 1; omega, by show -1000000 ≤ 1 - v ∧ 1 - v ≤ 1000000; omega, hst.2.2⟩
            · cases h
          · next h5 =>
            rw [if_neg h5]
            split at h
            · match st, hst with
              | b :: a :: r, hst =>
                split at h
                · next h6 =>
                  cases h
                  exact ⟨fun q => (by cases q), jn_r hst.2.2.2.1 hst.2.1 (by omega), hst.2.2.2.2⟩
                · split at h
                  · next h6 h7 =>
                    cases h
                    refine ⟨fun _ => ?_, jn_r hst.2.2.2.1 hst.2.1 (by omega), hst.2.2.2.2⟩
                    have : c = 7 ∨ c = 8 ∨ c = 9 := by omega
                    rcases this with rfl | rfl | rfl
                    · show (if a < b then (1 : Int) else 0) = 0 ∨ (if a < b then (1 : Int) else 0) = 1
                      split <;> omega
                    · show (if b < a then (1 : Int) else 0) = 0 ∨ (if b < a then (1 : Int) else 0) = 1
                      split <;> omega
                    · show (if a = b then (1 : Int) else 0) = 0 ∨ (if a = b then (1 : Int) else 0) = 1
                      split <;> omega
                  · cases h
            · match st, hst with
              | b :: a :: r, hst =>
                split at h
                · next h6 =>
                  cases h
                  have ha := hst.2.2.1 rfl
                  have hb := hst.1 rfl
                  have key : jn c a b = 0 ∨ jn c a b = 1 := by
                    rcases h6 with rfl | rfl
                    · show a * b = 0 ∨ a * b = 1
                      rcases ha with rfl | rfl <;> rcases hb with rfl | rfl <;> decide
                    · show (if 0 < a + b then (1 : Int) else 0) = 0 ∨ (if 0 < a + b then (1 : Int) else 0) = 1
                      split <;> omega
                  exact ⟨fun _ => key, by omega, hst.2.2.2.2⟩
                · cases h
            · cases h
/-- the ring: w is a row of numbers (0 the minute, 1 + s the hoops, 10 + 2 k the seats, 11 + 2 k the swells) -/
def whoF (w : Nat → Int) (q : Int) : Nat → Nat → Int
  | 0, _ => -1
  | j + 1, k => if w (10 + 2 * k) = q then (k : Int) else whoF w q j (k + 1)
def who (w : Nat → Int) (g : Nat) (q : Int) : Int := whoF w q g 0
def trn (n : Nat) (q : Int) : Int := if q < 0 then q + n else if q < n then q else q - n
def swA (T : Tab) (w : Nat → Int) (q : Int) : Int := if who w (tG T) (trn (tN T) q) = -1 then 0 else w (11 + 2 * (who w (tG T) (trn (tN T) q)).toNat)
def lod (T : Tab) (w : Nat → Int) (q : Int) : Int := swA T w (q - 1) + swA T w q + swA T w (q + 1)
/-- what a part of a code is, of guest k -/
def kno (T : Tab) (w : Nat → Int) (k : Nat) (size : Int) (p : Int) : Int := if p = 0 then tW T k else if p = 1 then tH T k else if p = 2 then w (11 + 2 * k) else if p = 3 then w 0 else if p = 4 then swA T w (w (10 + 2 * k) - 1) else if p = 5 then swA T w (w (10 + 2 * k) + 1) else if p = 6 then w (1 + (w (10 + 2 * k)).toNat) else if p = 7 then lod T w (w (10 + 2 * k)) else if p = 8 then size else if p = 9 then (k : Int) else w (10 + 2 * k)
def fart (T : Tab) (w : Nat → Int) (k j : Nat) : Int := if (if w (10 + 2 * k) - w (10 + 2 * j) < 0 then -(w (10 + 2 * k) - w (10 + 2 * j)) else w (10 + 2 * k) - w (10 + 2 * j)) < (tN T : Int) - (if w (10 + 2 * k) - w (10 + 2 * j) < 0 then -(w (10 + 2 * k) - w (10 + 2 * j)) else w (10 + 2 * k) - w (10 + 2 * j)) then (if w (10 + 2 * k) - w (10 + 2 * j) < 0 then -(w (10 + 2 * k) - w (10 + 2 * j)) else w (10 + 2 * k) - w (10 + 2 * j)) else (tN T : Int) - (if w (10 + 2 * k) - w (10 + 2 * j) < 0 then -(w (10 + 2 * k) - w (10 + 2 * j)) else w (10 + 2 * k) - w (10 + 2 * j))
def unk (T : Tab) (w : Nat → Int) (k : Nat) (p v : Int) : Int := if p = 0 then swA T w ((w (10 + 2 * k) + v) % (tN T : Int)) else if 0 ≤ v ∧ v < (tG T : Int) then fart T w k v.toNat else -1
def valu (T : Tab) (w : Nat → Int) (k : Nat) (size : Int) (cs : List Int) : Int := val (kno T w k size) (unk T w k) cs
/-- a minute: all swell at once -/
def swl (T : Tab) (w : Nat → Int) : Nat → Int := fun i => if 11 ≤ i ∧ i < 11 + 2 * tG T ∧ i % 2 = 1 then cut (w i + valu T w ((i - 11) / 2) 0 (tC T 0)) else w i
def spl (T : Tab) (w : Nat → Int) (size q : Int) : Nat → Int :=
  if who w (tG T) (trn (tN T) q) = -1 then w
  else upW w (11 + 2 * (who w (tG T) (trn (tN T) q)).toNat) (cut (w (11 + 2 * (who w (tG T) (trn (tN T) q)).toNat) + cut (valu T w (who w (tG T) (trn (tN T) q)).toNat size (tC T 2))))
/-- guest k bursts -/
def bur (T : Tab) (w : Nat → Int) (k : Nat) : Nat → Int := spl T (spl T (upW w (11 + 2 * k) 0) (w (11 + 2 * k)) (w (10 + 2 * k) - 1)) (w (11 + 2 * k)) (w (10 + 2 * k) + 1)
def sta (T : Tab) (w : Nat → Int) (k : Nat) : Bool := !(w (1 + (w (10 + 2 * k)).toNat) == 1) && (valu T w k 0 (tC T 1) == 1)
/-- who bursts, from guest k on, j of them: their swells; what is told of each: guest, seat, swell -/
def stp (T : Tab) : Nat → Nat → (Nat → Int) → (Nat → Int) × List (Nat × Int × Int)
  | 0, _, w => (w, [])
  | j + 1, k, w => if sta T w k then ((stp T j (k + 1) (bur T w k)).1, (k, w (10 + 2 * k), w (11 + 2 * k)) :: (stp T j (k + 1) (bur T w k)).2) else stp T j (k + 1) w
def mnt (T : Tab) (w : Nat → Int) : (Nat → Int) × List (Nat × Int × Int) := (upW (stp T (tG T) 0 (swl T w)).1 0 (w 0 + 1), (stp T (tG T) 0 (swl T w)).2)
/-- n minutes: the ring then -/
def mns (T : Tab) : Nat → (Nat → Int) → (Nat → Int)
  | 0, w => w
  | n + 1, w => mns T n (mnt T w).1
/-- how many burst in n minutes -/
def bns (T : Tab) : Nat → (Nat → Int) → Nat
  | 0, _ => 0
  | n + 1, w => (mnt T w).2.length + bns T n (mnt T w).1
