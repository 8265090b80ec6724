/-! on: an image taken, on both sides -/
def tg (tp : List Int) (i : Nat) : Int := tp.getD i 0
def hpB (tp : List Int) : Nat → Nat → Bool
  | 0, _ => true
  | j + 1, q => if 1 < tg tp (2 + q) then false else hpB tp j (q + 1)
def dpB (tp : List Int) (n : Nat) (x : Int) : Nat → Nat → Bool
  | 0, _ => false
  | j + 1, i => if tg tp (2 + n + 2 * i) = x then true else dpB tp n x j (i + 1)
def gsB (tp : List Int) (n : Nat) : Nat → Nat → Bool
  | 0, _ => true
  | j + 1, k => if 0 ≤ tg tp (2 + n + 2 * k) ∧ tg tp (2 + n + 2 * k) < (n : Int) then (if dpB tp n (tg tp (2 + n + 2 * k)) k 0 then false else if 99 < tg tp (3 + n + 2 * k) then false else gsB tp n j (k + 1)) else false
def imgB (T : Tab) (tp : List Int) : Bool := if tp.length = 3 + tN T + 2 * tG T then (if tg tp (2 + tN T + 2 * tG T) = ckF 223 (tp.take (2 + tN T + 2 * tG T)) then (if 999 < tg tp 0 * 256 + tg tp 1 then false else if hpB tp (tN T) 0 then gsB tp (tN T) (tG T) 0 else false) else false) else false
def onW (T : Tab) (tp : List Int) (w : Nat → Int) : Nat → Int := fun i => if i = 0 then tg tp 0 * 256 + tg tp 1 else if i < 1 + tN T then tg tp (1 + i) else if 10 ≤ i ∧ i < 10 + 2 * tG T then tg tp (2 + tN T + (i - 10)) else w i
theorem dpB_s (tp : List Int) (n : Nat) (x : Int) : ∀ j i, dpB tp n x (j + 1) i = (dpB tp n x j i || decide (tg tp (2 + n + 2 * (i + j)) = x))
  | 0, i => by
    show (if tg tp (2 + n + 2 * i) = x then true else false) = (false || _)
    rw [Bool.false_or, Nat.add_zero]
    split
    · next h => rw [decide_eq_true h]
    · next h => rw [decide_eq_false h]
  | j + 1, i => by
    show (if tg tp (2 + n + 2 * i) = x then true else dpB tp n x (j + 1) (i + 1)) = ((if tg tp (2 + n + 2 * i) = x then true else dpB tp n x j (i + 1)) || _)
    split
    · rfl
    · rw [dpB_s tp n x j (i + 1), show i + 1 + j = i + (j + 1) by omega]
theorem dpB_f {tp : List Int} {n : Nat} {x : Int} : ∀ {j : Nat}, dpB tp n x j 0 = false → ∀ i, i < j → tg tp (2 + n + 2 * i) ≠ x
  | 0, _, i, hi => absurd hi (Nat.not_lt_zero i)
  | j + 1, h, i, hi => by
    rw [dpB_s, Bool.or_eq_false_iff, Nat.zero_add] at h
    by_cases e : i = j
    · rw [e]; exact of_decide_eq_false h.2
    · exact dpB_f h.1 i (by omega)
theorem hpB_t {tp : List Int} : ∀ {j q : Nat}, hpB tp j q = true → ∀ i, i < j → tg tp (2 + (q + i)) ≤ 1
  | 0, _, _, i, hi => absurd hi (Nat.not_lt_zero i)
  | j + 1, q, h, i, hi => by
    unfold hpB at h
    split at h
    · cases h
    · next h1 =>
      cases i with
      | zero => show tg tp (2 + q) ≤ 1; omega
      | succ i => rw [show q + (i + 1) = q + 1 + i by omega]; exact hpB_t h i (by omega)
theorem gsB_t {tp : List Int} {n : Nat} : ∀ {j k : Nat}, gsB tp n j k = true → ∀ i, i < j → (0 ≤ tg tp (2 + n + 2 * (k + i)) ∧ tg tp (2 + n + 2 * (k + i)) < (n : Int)) ∧ tg tp (3 + n + 2 * (k + i)) ≤ 99 ∧ dpB tp n (tg tp (2 + n + 2 * (k + i))) (k + i) 0 = false
  | 0, _, _, i, hi => absurd hi (Nat.not_lt_zero i)
  | j + 1, k, h, i, hi => by
    unfold gsB at h
    split at h
    · next h1 =>
      split at h
      · cases h
      · next h2 =>
        split at h
        · cases h
        · next h3 =>
          cases i with
          | zero => exact ⟨h1, by show tg tp (3 + n + 2 * k) ≤ 99; omega, by
              show dpB tp n (tg tp (2 + n + 2 * k)) k 0 = false
              exact Bool.eq_false_iff.mpr h2⟩
          | succ i => rw [show k + (i + 1) = k + 1 + i by omega]; exact gsB_t h i (by omega)
    · cases h
section ON
variable {T : Tab} {w : Nat → Int} {tp : List Int}
theorem imgB_t (h : imgB T tp = true) : tp.length = 3 + tN T + 2 * tG T ∧ tg tp 0 * 256 + tg tp 1 ≤ 999 ∧ (∀ q, q < tN T → tg tp (2 + q) ≤ 1) ∧ (∀ k, k < tG T → (0 ≤ tg tp (2 + tN T + 2 * k) ∧ tg tp (2 + tN T + 2 * k) < (tN T : Int)) ∧ tg tp (3 + tN T + 2 * k) ≤ 99) ∧ ∀ i k, i < k → k < tG T → tg tp (2 + tN T + 2 * i) ≠ tg tp (2 + tN T + 2 * k) := by
  unfold imgB at h
  split at h
  · next h1 =>
    split at h
    · split at h
      · cases h
      · next h2 =>
        split at h
        · next h3 =>
          refine ⟨h1, by omega, fun q hq => ?_, fun k hk => ?_, fun i k hi hk => ?_⟩
          · have := hpB_t h3 q hq
            rw [Nat.zero_add] at this
            exact this
          · have := gsB_t h k hk
            rw [Nat.zero_add] at this
            exact ⟨this.1, this.2.1⟩
          · have := gsB_t h k hk
            rw [Nat.zero_add] at this
            exact dpB_f this.2.2 i hi
        · cases h
    · cases h
  · cases h
theorem tg_r (hb : Bys tp) {i : Nat} (h : i < tp.length) : 0 ≤ tg tp i ∧ tg tp i ≤ 255 := hb i h
theorem onW_0 : onW T tp w 0 = tg tp 0 * 256 + tg tp 1 := rfl
theorem onW_h {q : Nat} (h : q < tN T) : onW T tp w (1 + q) = tg tp (2 + q) := by
  unfold onW
  rw [if_neg (by omega), if_pos (by omega), show 1 + (1 + q) = 2 + q by omega]
theorem onW_s (hn : tN T ≤ 9) {k : Nat} (h : k < tG T) : onW T tp w (10 + 2 * k) = tg tp (2 + tN T + 2 * k) := by
  unfold onW
  rw [if_neg (by omega), if_neg (by omega), if_pos (by omega), show 10 + 2 * k - 10 = 2 * k by omega]
theorem onW_w (hn : tN T ≤ 9) {k : Nat} (h : k < tG T) : onW T tp w (11 + 2 * k) = tg tp (3 + tN T + 2 * k) := by
  unfold onW
  rw [if_neg (by omega), if_neg (by omega), if_pos (by omega), show 2 + tN T + (11 + 2 * k - 10) = 3 + tN T + 2 * k by omega]
theorem onW_o {q : Nat} (h : tN T ≤ q) (h9 : q < 9) : onW T tp w (1 + q) = w (1 + q) := by
  unfold onW
  rw [if_neg (by omega), if_neg (by omega), if_neg (by omega)]
theorem Wf.on (hw : Wf T w) (ht : Tf T) (hb : Bys tp) (h : imgB T tp = true) : Wf T (onW T tp w) ∧ onW T tp w 0 ≤ 999 := by
  have hn := ht.2.1
  obtain ⟨hl, h0, h1, h2, h3⟩ := imgB_t h
  have r : ∀ i, i < 3 + tN T + 2 * tG T → 0 ≤ tg tp i ∧ tg tp i ≤ 255 := fun i hi => tg_r hb (by omega)
  have r0 := r 0 (by omega)
  have r1 := r 1 (by omega)
  rw [onW_0]
  refine ⟨⟨by rw [onW_0]; omega, fun q hq => ?_, fun k hk => ?_, fun i k hi hk => ?_⟩, h0⟩
  · by_cases e : q < tN T
    · rw [onW_h e]
      have := h1 q e
      have := r (2 + q) (by omega)
      omega
    · rw [onW_o (by omega) hq]; exact hw.2.1 q hq
  · rw [onW_s hn hk, onW_w hn hk]
    have := r (3 + tN T + 2 * k) (by omega)
    exact ⟨(h2 k hk).1, this.1, (h2 k hk).2⟩
  · rw [onW_s hn hi, onW_s hn hk]
    intro e
    by_cases a : i < k
    · exact absurd e (h3 i k a hk)
    · by_cases b : k < i
      · exact absurd e.symm (h3 k i b hi)
      · omega
theorem Wh.on (hw : Wh T w) : Wh T (onW T tp w) := fun q h1 h2 => (onW_o h1 h2).trans (hw q h1 h2)
theorem x_byteAt (D : Nat) {s : Mem} (h : XTp s tp) {i : Nat} (hi : i < tp.length) : f_Tape_byteAt (D + 1) (i : Int) s = some (tg tp i, s) := by
  have := h.2.1
  rw [e_Tape_byteAt, if_neg (by omega), h.1, if_pos (by omega), if_pos (by omega), inB_n (by omega), Int.toNat_natCast, h.2.2 i hi]
  rfl
theorem x_isI88 (D : Nat) (ht : Tf T) {s : Mem} (hx : XM s T w) (h : XTp s tp) (hl : tp.length = 3 + tN T + 2 * tG T) : ∀ j q : Nat, q + j = tN T → L_X_isImage_88 (D + 1) (q : Int) s = if hpB tp j q then L_X_isImage_125 (D + 1) 0 0 s else some (0, s)
  | 0, q, hq => by
    have en := hx.1.n
    rw [hx.2] at en
    rw [e_X_isImage_88, en, if_neg (by omega)]
    rfl
  | j + 1, q, hq => by
    have hn := ht.2.1
    have hg := ht.2.2.1
    have en := hx.1.n
    rw [hx.2] at en
    rw [e_X_isImage_88, en, if_pos (by omega), show w32 (2 + (q : Int)) = ((2 + q : Nat) : Int) by rw [w32_i (by omega) (by omega)]; omega, x_byteAt D h (by omega), Option.bind_some, w32_s (by omega)]
    simp only []
    unfold hpB
    by_cases e : 1 < tg tp (2 + q)
    · rw [if_pos e, if_pos e]; rfl
    · rw [if_neg e, if_neg e]
      exact x_isI88 D ht hx h hl j (q + 1) (by omega)
theorem or_bit_tab : ∀ a : Fin 512, ∀ k : Fin 9, (a.val ||| 2 ^ k.val) < 512 ∧ ∀ q : Fin 9, (a.val ||| 2 ^ k.val) / 2 ^ q.val % 2 = if q = k then 1 else a.val / 2 ^ q.val % 2 := by decide +kernel
theorem or_bit {a k : Nat} (ha : a < 512) (hk : k < 9) : (a ||| 2 ^ k) < 512 ∧ ∀ q, q < 9 → (a ||| 2 ^ k) / 2 ^ q % 2 = if q = k then 1 else a / 2 ^ q % 2 := by
  obtain ⟨h1, h2⟩ := or_bit_tab ⟨a, ha⟩ ⟨k, hk⟩
  refine ⟨h1, fun q hq => ?_⟩
  have := h2 ⟨q, hq⟩
  simp only [Fin.mk.injEq] at this
  exact this
theorem x_isI125 (D : Nat) (ht : Tf T) {s : Mem} (hx : XM s T w) (h : XTp s tp) (hl : tp.length = 3 + tN T + 2 * tG T) (hb : Bys tp) : ∀ j k a : Nat, k + j = tG T → a < 512 → (∀ q : Nat, q < 9 → (a / 2 ^ q % 2 = 1 ↔ dpB tp (tN T) (q : Int) k 0 = true)) → L_X_isImage_125 (D + 1) (a : Int) (k : Int) s = some (if gsB tp (tN T) j k then 1 else 0, s)
  | 0, k, a, hk, ha, hd => by
    have eg := hx.1.g
    rw [hx.2] at eg
    rw [e_X_isImage_125, eg, if_neg (by omega)]
    rfl
  | j + 1, k, a, hk, ha, hd => by
    have hn := ht.2.1
    have hg := ht.2.2.1
    have en := hx.1.n
    have eg := hx.1.g
    rw [hx.2] at en eg
    have e1 : w32 ((w32 (2 + (tN T : Int))) + (w32 (2 * (k : Int)))) = ((2 + tN T + 2 * k : Nat) : Int) := by
      rw [w32_i (z := 2 + (tN T : Int)) (by omega) (by omega), w32_i (z := 2 * (k : Int)) (by omega) (by omega), w32_i (by omega) (by omega)]; omega
    have e2 : w32 ((w32 (3 + (tN T : Int))) + (w32 (2 * (k : Int)))) = ((3 + tN T + 2 * k : Nat) : Int) := by
      rw [w32_i (z := 3 + (tN T : Int)) (by omega) (by omega), w32_i (z := 2 * (k : Int)) (by omega) (by omega), w32_i (by omega) (by omega)]; omega
    have hp := tg_r hb (i := 2 + tN T + 2 * k) (by omega)
    rw [e_X_isImage_125, eg, if_pos (by omega), en, e1, x_byteAt D h (by omega), Option.bind_some]
    simp only []
    rw [x_isS D hx ht, Option.bind_some]
    simp only []
    unfold gsB
    by_cases c1 : 0 ≤ tg tp (2 + tN T + 2 * k) ∧ tg tp (2 + tN T + 2 * k) < (tN T : Int)
    · obtain ⟨p, hp2⟩ := Int.eq_ofNat_of_zero_le c1.1
      have hp9 : p < 9 := by omega
      rw [if_pos c1, if_neg (by omega), if_pos c1, hp2, bit_n (by omega) (by omega)]
      have hdp := hd p hp9
      by_cases c2 : dpB tp (tN T) (p : Int) k 0 = true
      · rw [if_pos (by rw [hdp.mpr c2]; rfl), if_pos c2]; rfl
      · have : a / 2 ^ p % 2 ≠ 1 := fun q => c2 (hdp.mp q)
        rw [if_neg (by omega), if_neg c2, en, e2, x_byteAt D h (by omega), Option.bind_some, w32_s (by omega)]
        simp only []
        by_cases c3 : 99 < tg tp (3 + tN T + 2 * k)
        · rw [if_pos c3, if_pos c3]; rfl
        · obtain ⟨o1, o2⟩ := or_bit ha hp9
          have hpw : 2 ^ p ≤ 2 ^ 8 := Nat.pow_le_pow_right (by omega) (by omega)
          rw [if_neg c3, if_neg c3, iShl_1 (by omega), iOr_nat (by omega) (by omega)]
          refine x_isI125 D ht hx h hl hb j (k + 1) _ (by omega) o1 (fun q hq => ?_)
          rw [o2 q hq, dpB_s, Nat.zero_add, hp2, Bool.or_eq_true, decide_eq_true_iff]
          by_cases e : q = p
          · rw [if_pos e]
            exact ⟨fun _ => Or.inr (by omega), fun _ => rfl⟩
          · rw [if_neg e, hd q hq]
            exact ⟨Or.inl, fun c => c.elim id (fun c => absurd c (by omega))⟩
    · rw [if_neg c1, if_pos rfl, if_neg c1]; rfl
theorem x_isImage (D : Nat) {s : Mem} (hx : XM s T w) (ht : Tf T) (h : XTp s tp) (hb : Bys tp) : f_X_isImage (D + 2) s = some (if imgB T tp then 1 else 0, s) := by
  have hn := ht.2.1
  have hg := ht.2.2.1
  have en := hx.1.n
  have eg := hx.1.g
  rw [hx.2] at en eg
  have hl6 := h.2.1
  have e1 : w32 ((w32 (2 + (tN T : Int))) + (w32 (2 * (tG T : Int)))) = ((2 + tN T + 2 * tG T : Nat) : Int) := by
    rw [w32_i (z := 2 + (tN T : Int)) (by omega) (by omega), w32_i (z := 2 * (tG T : Int)) (by omega) (by omega), w32_i (by omega) (by omega)]; omega
  rw [e_X_isImage, en, eg, e1, w32_s (by omega), h.1]
  unfold imgB
  by_cases c1 : tp.length = 3 + tN T + 2 * tG T
  · have hb2 := (hb.take (n := 2 + tN T + 2 * tG T))
    have hl2 : (tp.take (2 + tN T + 2 * tG T)).length = 2 + tN T + 2 * tG T := by rw [List.length_take]; omega
    have hc := x_ck2 D (s := s) hb2 (by omega) h.2.2.take (2 + tN T + 2 * tG T) 0 (by omega)
    rw [hl2] at hc
    have hc' : f_X_checkByte_2 (D + 1) ((2 + tN T + 2 * tG T : Nat) : Int) s = some (ckF 223 (tp.take (2 + tN T + 2 * tG T)), s) := (e_X_checkByte_2 D _ s).trans hc
    rw [if_pos (by omega), if_pos c1, x_byteAt D h (by omega), Option.bind_some]
    simp only []
    rw [hc', Option.bind_some]
    simp only []
    by_cases c2 : tg tp (2 + tN T + 2 * tG T) = ckF 223 (tp.take (2 + tN T + 2 * tG T))
    · have q0 : f_Tape_byteAt (D + 1) 0 s = some (tg tp 0, s) := x_byteAt D h (i := 0) (by omega)
      have q1 : f_Tape_byteAt (D + 1) 1 s = some (tg tp 1, s) := x_byteAt D h (i := 1) (by omega)
      have r0 := tg_r hb (i := 0) (by omega)
      have r1 := tg_r hb (i := 1) (by omega)
      rw [if_pos c2, if_pos c2, q0, Option.bind_some]
      simp only []
      rw [q1, Option.bind_some, w32_i (z := tg tp 0 * 256) (by omega) (by omega), w32_i (z := tg tp 0 * 256 + tg tp 1) (by omega) (by omega)]
      simp only []
      by_cases c3 : 999 < tg tp 0 * 256 + tg tp 1
      · rw [if_pos c3, if_pos c3]; rfl
      · have h88 := x_isI88 D ht hx h c1 (tN T) 0 (by omega)
        have h125 := x_isI125 D ht hx h c1 hb (tG T) 0 0 (by omega) (by omega) (fun q hq => by
          rw [Nat.zero_div]
          exact ⟨fun h => (by cases h), fun h => (by cases h)⟩)
        rw [if_neg c3, if_neg c3]
        refine h88.trans ?_
        by_cases c4 : hpB tp (tN T) 0 = true
        · rw [if_pos c4, if_pos c4]; exact h125
        · rw [if_neg c4, if_neg c4]; rfl
    · rw [if_neg c2, if_neg c2]; rfl
  · rw [if_neg (by omega), if_neg c1]; rfl
/-- the hoops so far -/
def HBp (h : Int) (tp : List Int) (b : Nat) : Prop := ∃ a : Nat, h = (a : Int) ∧ a < 512 ∧ ∀ q, q < 9 → ((a / 2 ^ q % 2 : Nat) : Int) = if q < b then tg tp (2 + q) else 0
theorem x_take38 (D : Nat) (ht : Tf T) (hl : tp.length = 3 + tN T + 2 * tG T) (h1 : ∀ q, q < tN T → tg tp (2 + q) ≤ 1) (hb : Bys tp) : ∀ (j q : Nat) (s : Mem), q + j = tN T → (rQ s 0 2 = 6 ∨ rQ s 0 2 = 17) → rI s (rQ s 0 2) 1 = (tN T : Int) → XTp s tp → HBp (rI s 28 2) tp q → ∃ s1, L_X_takeImage_38 (D + 1) (q : Int) s = L_X_takeImage_81 (D + 1) 0 s1 ∧ Fr (fun a k => a = 28 ∧ k = 2) s s1 ∧ HBp (rI s1 28 2) tp (tN T)
  | 0, q, s, hq, h6, en, h, hp => by
    rw [e_X_takeImage_38, en, if_neg (by omega)]
    have : q = tN T := by omega
    subst this
    exact ⟨s, rfl, Fr.rf, hp⟩
  | j + 1, q, s, hq, h6, en, h, hp => by
    have hn := ht.2.1
    obtain ⟨a, e1, e2, e3⟩ := hp
    have r := tg_r hb (i := 2 + q) (by omega)
    have hh := h1 q (by omega)
    have f1 : ∀ v, Fr (fun a k => a = 28 ∧ k = 2) s (wI s 28 2 v) := fun v => Fr.rf.w ⟨rfl, rfl⟩
    have hpw : 2 ^ q ≤ 2 ^ 8 := Nat.pow_le_pow_right (by omega) (by omega)
    have hnew : HBp (iOr (rI s 28 2) (iShl (tg tp (2 + q)) (q : Int))) tp (q + 1) := by
      rw [e1, iShl_b (by omega) (by omega)]
      obtain ⟨o1, o2⟩ := or_bit e2 (k := q) (by omega)
      have hb2 : tg tp (2 + q) = 0 ∨ tg tp (2 + q) = 1 := by omega
      rcases hb2 with e0 | e0
      · rw [e0, Int.zero_mul]
        refine ⟨a, ?_, e2, fun p hp => ?_⟩
        · have := iOr_nat (a := a) (b := 0) (by omega) (by omega)
          rw [Nat.or_zero] at this
          exact this
        · rw [e3 p hp]
          by_cases c : p < q
          · rw [if_pos c, if_pos (by omega)]
          · rw [if_neg c]
            by_cases c2 : p = q
            · rw [c2, if_pos (by omega), e0]
            · rw [if_neg (by omega)]
      · rw [e0, Int.one_mul, iOr_nat (by omega) (by omega)]
        refine ⟨_, rfl, o1, fun p hp => ?_⟩
        rw [o2 p hp]
        by_cases c2 : p = q
        · rw [if_pos c2, c2, if_pos (by omega), e0]; rfl
        · rw [if_neg c2, e3 p hp]
          by_cases c : p < q
          · rw [if_pos c, if_pos (by omega)]
          · rw [if_neg c, if_neg (by omega)]
    rw [e_X_takeImage_38, en, if_pos (by omega), show w32 (2 + (q : Int)) = ((2 + q : Nat) : Int) by rw [w32_i (by omega) (by omega)]; omega, x_byteAt D h (by omega), Option.bind_some, w32_s (by omega)]
    simp only []
    obtain ⟨s1, g1, g2, g3⟩ := x_take38 D ht hl h1 hb j (q + 1) (wI s 28 2 (iOr (rI s 28 2) (iShl (tg tp (2 + q)) (q : Int)))) (by omega) h6 (by rw [rQ_wI, rI_other _ _ _ _ (by omega)]; exact en) ⟨(rI_other _ _ _ _ (by omega)).trans h.1, h.2.1, h.2.2.fr (f1 _) (fun i _ => by omega)⟩ (by rw [rI_same]; exact hnew)
    exact ⟨s1, g1, (f1 _).tr g2, g3⟩
theorem x_take81 (D : Nat) (ht : Tf T) (hw : Wf T (onW T tp w)) (hl : tp.length = 3 + tN T + 2 * tG T) : ∀ (j k : Nat) (s : Mem), k + j = tG T → (rQ s 28 0 = 6 ∨ rQ s 28 0 = 17) → rQ s 28 0 = rQ s 0 2 → rI s (rQ s 0 2) 1 = (tN T : Int) → rI s (rQ s 0 2) 2 = (tG T : Int) → XTp s tp → (∀ i, i < k → rI s 29 i = onW T tp w (10 + 2 * i) ∧ rI s 30 i = onW T tp w (11 + 2 * i)) → ∃ s1, L_X_takeImage_81 (D + 1) (k : Int) s = some (0, s1) ∧ Fr (fun a _ => a = 29 ∨ a = 30 ∨ a = 32) s s1 ∧ (∀ i, i < tG T → rI s1 29 i = onW T tp w (10 + 2 * i) ∧ rI s1 30 i = onW T tp w (11 + 2 * i)) ∧ ∀ q, q < 9 → rI s1 32 q = who (onW T tp w) (tG T) (q : Int)
  | 0, k, s, hk, h6, h28, en, eg, h, hs => by
    have : k = tG T := by omega
    subst this
    obtain ⟨s1, e1, f1, g1⟩ := x_find D (o := 28) (s := s) (w := onW T tp w) ht hw (Or.inl rfl) h6 (by rw [h28]; exact eg) (fun i hi => (hs i hi).1)
    rw [e_X_takeImage_81, eg, if_neg (by omega), e1, Option.bind_some]
    exact ⟨s1, rfl, f1.mo (fun a k q => Or.inr (Or.inr q)), fun i hi => ⟨(f1.i (by omega)).trans (hs i hi).1, (f1.i (by omega)).trans (hs i hi).2⟩, g1⟩
  | j + 1, k, s, hk, h6, h28, en, eg, h, hs => by
    have hn := ht.2.1
    have hg := ht.2.2.1
    rw [h28] at h6
    have e1 : w32 ((w32 (2 + (tN T : Int))) + (w32 (2 * (k : Int)))) = ((2 + tN T + 2 * k : Nat) : Int) := by
      rw [w32_i (z := 2 + (tN T : Int)) (by omega) (by omega), w32_i (z := 2 * (k : Int)) (by omega) (by omega), w32_i (by omega) (by omega)]; omega
    have e2 : w32 ((w32 (3 + (tN T : Int))) + (w32 (2 * (k : Int)))) = ((3 + tN T + 2 * k : Nat) : Int) := by
      rw [w32_i (z := 3 + (tN T : Int)) (by omega) (by omega), w32_i (z := 2 * (k : Int)) (by omega) (by omega), w32_i (by omega) (by omega)]; omega
    have f1 : ∀ v, Fr (fun a _ => a = 29 ∨ a = 30 ∨ a = 32) s (wI s 29 k v) := fun v => Fr.rf.w (Or.inl rfl)
    have t1 : ∀ v, XTp (wI s 29 k v) tp := fun v => ⟨(rI_other _ _ _ _ (by omega)).trans h.1, h.2.1, h.2.2.fr (f1 v) (fun i _ => by omega)⟩
    have f2 : ∀ v u, Fr (fun a _ => a = 29 ∨ a = 30 ∨ a = 32) s (wI (wI s 29 k v) 30 k u) := fun v u => (f1 v).w (Or.inr (Or.inl rfl))
    rw [e_X_takeImage_81, eg, if_pos (by omega), if_pos (by omega), en, e1, x_byteAt D h (by omega), Option.bind_some, inB_n (by omega), Int.toNat_natCast]
    simp only []
    rw [rI_other _ _ _ _ (by omega), en, e2, x_byteAt D (t1 _) (by omega), Option.bind_some, inB_n (by omega), w32_s (by omega)]
    simp only []
    obtain ⟨s1, g1, g2, g3, g4⟩ := x_take81 D ht hw hl j (k + 1) (wI (wI s 29 k (tg tp (2 + tN T + 2 * k))) 30 k (tg tp (3 + tN T + 2 * k))) (by omega) (by rw [rQ_wI, rQ_wI, h28]; exact h6) h28 (by rw [rQ_wI, rQ_wI, rI_other _ _ _ _ (by omega), rI_other _ _ _ _ (by omega)]; exact en) (by rw [rQ_wI, rQ_wI, rI_other _ _ _ _ (by omega), rI_other _ _ _ _ (by omega)]; exact eg) ⟨(rI_other _ _ _ _ (by omega)).trans ((rI_other _ _ _ _ (by omega)).trans h.1), h.2.1, h.2.2.fr (f2 _ _) (fun i _ => by omega)⟩ (fun i hi => by
      by_cases c : i = k
      · rw [c, rI_other _ _ _ _ (by omega), rI_same, rI_same, onW_s hn (by omega), onW_w hn (by omega)]
        exact ⟨rfl, rfl⟩
      · rw [rI_other _ _ _ _ (by omega), rI_other _ _ _ _ (by omega), rI_other _ _ _ _ (by omega), rI_other _ _ _ _ (by omega)]
        exact hs i (by omega))
    exact ⟨s1, g1, (f2 _ _).tr g2, g3, g4⟩
abbrev POn : Nat → Nat → Prop := fun a k => 28 ≤ a ∧ a ≤ 34 ∧ (a = 28 → 1 ≤ k) ∨ a = 42 ∧ k = 1 ∨ a = 44 ∧ k = 2 ∨ a = 79 ∨ a = 1 ∧ k = 1
theorem x_on (D : Nat) {s : Mem} {nx : Nat} {U : UL} (hx : XM s T w) (ht : Tf T) (hw : Wf T w) (hh : Wh T w) (h : XTp s tp) (hb : Bys tp) (hU : XU s T nx U) : (imgB T tp = true → ∃ s1, f_X_on (D + 3) s = some (1, s1) ∧ Fr POn s s1 ∧ XM s1 T (onW T tp w) ∧ KX s1 [] ∧ XU s1 T nx [] ∧ rI s1 79 1 = 0 ∧ rI s1 79 2 = 0 ∧ XTp s1 []) ∧ (imgB T tp = false → f_X_on (D + 3) s = some (0, wI (wI s 83 5 (w32 (rI s 83 5 + 1))) 1 1 0)) := by
  have href : f_X_refuse (D + 2) 5 s = some (0, wI s 83 5 (w32 (rI s 83 5 + 1))) := x_ref (D + 1) s (k := 5) (by omega)
  rw [e_X_on, x_has (D + 1) hx ht, Option.bind_some]
  simp only []
  rw [if_neg (show ¬ ((1 : Int) = 0) by decide), x_isImage D hx ht h hb, Option.bind_some]
  simp only []
  constructor
  · intro hi
    have hn := ht.2.1
    have hg := ht.2.2.1
    obtain ⟨hl, h0, h1, h2, h3⟩ := imgB_t hi
    obtain ⟨hw2, -⟩ := hw.on ht hb hi
    have en := hx.1.n
    have eg := hx.1.g
    have h6 := hx.1.2.1.1
    have hq := hx.2
    rw [hq] at en eg
    have r0 := tg_r hb (i := 0) (by omega)
    have r1 := tg_r hb (i := 1) (by omega)
    have q0 : f_Tape_byteAt (D + 1) 0 s = some (tg tp 0, s) := x_byteAt D h (i := 0) (by omega)
    have q1 : f_Tape_byteAt (D + 1) 1 s = some (tg tp 1, s) := x_byteAt D h (i := 1) (by omega)
    have f0 : Fr POn s (wI (wI s 28 1 (tg tp 0 * 256 + tg tp 1)) 28 2 0) := (Fr.rf.w (by unfold POn; omega)).w (by unfold POn; omega)
    have hq6 : rQ s 0 2 = 6 ∨ rQ s 0 2 = 17 := by rw [← hq]; exact h6
    have ft : ∀ {s' : Mem}, Fr POn s s' → rI s' 1 1 = rI s 1 1 → XTp s' tp := fun {s'} hf e => ⟨e.trans h.1, h.2.1, h.2.2.fr hf (fun i _ => by unfold POn; omega)⟩
    obtain ⟨s1, e1, f1, b1⟩ := x_take38 D ht hl h1 hb (tN T) 0 (wI (wI s 28 1 (tg tp 0 * 256 + tg tp 1)) 28 2 0) (by omega) hq6 (by rw [rQ_wI, rQ_wI, rI_other _ _ _ _ (by omega), rI_other _ _ _ _ (by omega)]; exact en) (ft f0 (by rw [rI_other _ _ _ _ (by omega), rI_other _ _ _ _ (by omega)])) ⟨0, rI_same _ _ _ _, by omega, fun q hq => by rw [Nat.zero_div, if_neg (by omega)]; rfl⟩
    have f01 : Fr POn s s1 := f0.tr (f1.mo (fun a k q => by unfold POn; omega))
    have t1 : XTp s1 tp := ft f01 ((f1.i (by omega)).trans (by rw [rI_other _ _ _ _ (by omega), rI_other _ _ _ _ (by omega)]))
    have q02 : rQ s1 0 2 = rQ s 0 2 := f01.q (by unfold POn; omega)
    have q28 : rQ s1 28 0 = rQ s 28 0 := f01.q (by unfold POn; omega)
    obtain ⟨s2, e2, f2, g2, g3⟩ := x_take81 D (w := w) ht hw2 hl (tG T) 0 s1 (by omega) (by rw [q28]; exact h6) (by rw [q28, q02]; exact hq) (by rw [q02, f01.i (by unfold POn; omega)]; exact en) (by rw [q02, f01.i (by unfold POn; omega)]; exact eg) t1 (fun i hi => absurd hi (Nat.not_lt_zero i))
    have e12 := e1.trans e2
    have f02 : Fr POn s s2 := f01.tr (f2.mo (fun a k q => by unfold POn; omega))
    have f3 : Fr (fun a k => a = 42 ∧ k = 1 ∨ a = 44 ∧ k = 2 ∨ a = 79 ∨ a = 1 ∧ k = 1) s2 (wI (wI (wI (wI (wI s2 42 1 0) 44 2 0) 79 1 0) 79 2 0) 1 1 0) := ((((Fr.rf.w (by omega)).w (by omega)).w (by omega)).w (by omega)).w (by omega)
    have ff : Fr POn s (wI (wI (wI (wI (wI s2 42 1 0) 44 2 0) 79 1 0) 79 2 0) 1 1 0) := f02.tr (f3.mo (fun a k q => by unfold POn; omega))
    rw [if_pos hi, if_neg (show ¬ ((1 : Int) = 0) by decide), e_X_on_19, if_neg (show ¬ ((1 : Int) = 0) by decide), e_X_takeImage, q0, Option.bind_some]
    simp only []
    rw [q1, Option.bind_some, w32_i (z := tg tp 0 * 256) (by omega) (by omega), w32_i (z := tg tp 0 * 256 + tg tp 1) (by omega) (by omega)]
    simp only []
    have e12' : L_X_takeImage_38 (D + 1) 0 (wI (wI s 28 1 (tg tp 0 * 256 + tg tp 1)) 28 2 0) = some (0, s2) := e12
    rw [e12', Option.bind_some]
    simp only []
    rw [e_X_forgetThePast, e_Pl_forget, Option.bind_some, Option.bind_some]
    simp only []
    rw [if_pos (Or.inr trivial)]
    refine ⟨_, rfl, ff, ⟨⟨Or.inl rfl, ?_, ?_, ?_, fun k hk => ?_, fun k hk => ?_, fun k hk => ?_, fun q hq => ?_⟩, ?_⟩, ⟨0, by omega, rfl, ?_, fun i hi => by omega⟩, ⟨?_, hU.2.1, ?_, by simp, fun i hi => absurd hi (Nat.not_lt_zero i)⟩, ?_, ?_, ⟨rI_same _ _ _ _, by simp, fun i hi => absurd hi (Nat.not_lt_zero i)⟩⟩
    · rw [ff.q (by unfold POn; omega)]
      have hx2 := hx.1.2.1
      obtain ⟨t1, t2, t3, t4, t5, t6, t7⟩ := hx2
      exact ⟨t1, (ff.i (by unfold POn; omega)).trans t2, (ff.i (by unfold POn; omega)).trans t3, fun k hk => (ff.i (by unfold POn; omega)).trans (t4 k hk), t5.fr ff (fun k => ⟨by unfold POn; omega, by unfold POn; omega⟩), t6.fr ff (fun k => ⟨by unfold POn; omega, by unfold POn; omega⟩), t7.fr ff (fun k => ⟨by unfold POn; omega, by unfold POn; omega⟩)⟩
    · rw [f3.i (by omega), f2.i (by omega), f1.i (by omega), rI_other _ _ _ _ (by omega), rI_same, onW_0]
    · rw [f3.i (by omega), f2.i (by omega)]
      obtain ⟨a, a1, a2, a3⟩ := b1
      refine ⟨a, a1, a2, fun q hq => ?_⟩
      rw [a3 q hq]
      by_cases c : q < tN T
      · rw [if_pos c, onW_h c]
      · rw [if_neg c, onW_o (by omega) hq, hh q (by omega) hq]
    · exact (f3.i (by omega)).trans (g2 k hk).1
    · exact (f3.i (by omega)).trans (g2 k hk).2
    · exact (f3.i (by omega)).trans ((f2.i (by omega)).trans ((f1.i (by omega)).trans (by rw [rI_other _ _ _ _ (by omega), rI_other _ _ _ _ (by omega)]; exact hx.1.2.2.2.2.2.2.1 k hk)))
    · exact (f3.i (by omega)).trans (g3 q hq)
    · rw [ff.q (by unfold POn; omega), ff.q (by unfold POn; omega)]; exact hq
    · rw [rI_other _ _ _ _ (by omega), rI_other _ _ _ _ (by omega), rI_other _ _ _ _ (by omega), rI_other _ _ _ _ (by omega), rI_same]; rfl
    · exact (ff.i (by unfold POn; omega)).trans hU.1
    · rw [rI_other _ _ _ _ (by omega), rI_other _ _ _ _ (by omega), rI_other _ _ _ _ (by omega), rI_same]; rfl
    · rw [rI_other _ _ _ _ (by omega), rI_other _ _ _ _ (by omega), rI_same]
    · rw [rI_other _ _ _ _ (by omega), rI_same]
  · intro hi
    rw [hi, if_neg (show ¬ (false = true) by decide), if_pos rfl, e_X_on_19, if_pos rfl, href, Option.bind_some, if_pos (Or.inl rfl)]
theorem m_isI76 (D : Nat) (ht : Tf T) {s : Mem} (h : Ag s 85 tp) (hl : tp.length = 3 + tN T + 2 * tG T) : ∀ j q : Nat, q + j = tN T → L_M_isImage_76 D (tp.length : Int) ((2 + tN T : Nat) : Int) ((2 + q : Nat) : Int) s = if hpB tp j q then L_M_isImage_101 D (tp.length : Int) ((2 + tN T : Nat) : Int) ((2 + tN T : Nat) : Int) s else some (0, s)
  | 0, q, hq => by
    rw [e_M_isImage_76, if_neg (by omega)]
    rfl
  | j + 1, q, hq => by
    have hn := ht.2.1
    have hg := ht.2.2.1
    have hh : rI s 85 (2 + q) = tg tp (2 + q) := h _ (by omega)
    rw [e_M_isImage_76, if_pos (by omega), inB_n (by omega), Int.toNat_natCast, hh, w32_s (by omega)]
    unfold hpB
    by_cases e : 1 < tg tp (2 + q)
    · rw [if_pos e, if_pos e]; rfl
    · rw [if_neg e, if_neg e]
      exact m_isI76 D ht h hl j (q + 1) (by omega)
theorem m_isI139 (D : Nat) {s : Mem} (ht : Tf T) (h : Ag s 85 tp) (hl : tp.length = 3 + tN T + 2 * tG T) {k : Nat} (hk : k < tG T) : ∀ j i : Nat, i + j = k → L_M_isImage_139 D (tp.length : Int) ((2 + tN T : Nat) : Int) ((2 + tN T + 2 * k : Nat) : Int) ((2 + tN T + 2 * i : Nat) : Int) s = if dpB tp (tN T) (tg tp (2 + tN T + 2 * k)) j i then some (0, s) else L_M_isImage_101 D (tp.length : Int) ((2 + tN T : Nat) : Int) ((2 + tN T + 2 * (k + 1) : Nat) : Int) s
  | 0, i, hi => by
    have hn := ht.2.1
    have hg := ht.2.2.1
    rw [e_M_isImage_139, if_neg (by omega), show w32 (((2 + tN T + 2 * k : Nat) : Int) + 2) = ((2 + tN T + 2 * (k + 1) : Nat) : Int) by rw [w32_i (by omega) (by omega)]; omega]
    rfl
  | j + 1, i, hi => by
    have hn := ht.2.1
    have hg := ht.2.2.1
    have h1 : rI s 85 (2 + tN T + 2 * i) = tg tp (2 + tN T + 2 * i) := h _ (by omega)
    have h2 : rI s 85 (2 + tN T + 2 * k) = tg tp (2 + tN T + 2 * k) := h _ (by omega)
    rw [e_M_isImage_139, if_pos (by omega), inB_n (by omega), inB_n (by omega), Int.toNat_natCast, Int.toNat_natCast, h1, h2, show w32 (((2 + tN T + 2 * i : Nat) : Int) + 2) = ((2 + tN T + 2 * (i + 1) : Nat) : Int) by rw [w32_i (by omega) (by omega)]; omega]
    unfold dpB
    by_cases e : tg tp (2 + tN T + 2 * i) = tg tp (2 + tN T + 2 * k)
    · rw [if_pos e, if_pos e]; rfl
    · rw [if_neg e, if_neg e]
      exact m_isI139 D ht h hl hk j (i + 1) (by omega)
theorem m_isI101 (D : Nat) (ht : Tf T) {s : Mem} (hm : MT s T) (h : Ag s 85 tp) (hl : tp.length = 3 + tN T + 2 * tG T) (hb : Bys tp) : ∀ j k : Nat, k + j = tG T → L_M_isImage_101 (D + 2) (tp.length : Int) ((2 + tN T : Nat) : Int) ((2 + tN T + 2 * k : Nat) : Int) s = some (if gsB tp (tN T) j k then 1 else 0, s)
  | 0, k, hk => by
    have hn := ht.2.1
    have hg := ht.2.2.1
    rw [e_M_isImage_101, w32_i (by omega) (by omega), if_neg (by omega)]
    rfl
  | j + 1, k, hk => by
    have hn := ht.2.1
    have hg := ht.2.2.1
    have h1 : rI s 85 (2 + tN T + 2 * k) = tg tp (2 + tN T + 2 * k) := h _ (by omega)
    have h2 : rI s 85 (2 + tN T + 2 * k + 1) = tg tp (3 + tN T + 2 * k) := by
      rw [show 2 + tN T + 2 * k + 1 = 3 + tN T + 2 * k by omega]; exact h _ (by omega)
    rw [e_M_isImage_101, w32_i (by omega) (by omega), if_pos (by omega), inB_n (by omega), Int.toNat_natCast, h1, m_isS D hm hn, Option.bind_some]
    simp only []
    unfold gsB
    by_cases c1 : 0 ≤ tg tp (2 + tN T + 2 * k) ∧ tg tp (2 + tN T + 2 * k) < (tN T : Int)
    · rw [if_pos c1, if_neg (by omega), if_pos c1, w32_s (by omega), inB_n (by omega), Int.toNat_natCast, h2]
      have h3 := m_isI139 (D + 2) ht h hl (k := k) (by omega) k 0 (by omega)
      by_cases c3 : 99 < tg tp (3 + tN T + 2 * k)
      · rw [if_pos c3, if_pos c3]
        split <;> rfl
      · rw [if_neg c3, if_neg c3]
        refine h3.trans ?_
        by_cases c2 : dpB tp (tN T) (tg tp (2 + tN T + 2 * k)) k 0 = true
        · rw [if_pos c2, if_pos c2]; rfl
        · rw [if_neg c2, if_neg c2]
          exact m_isI101 D ht hm h hl hb j (k + 1) (by omega)
    · rw [if_neg c1, if_pos rfl, if_neg c1]; rfl
theorem m_isImage (D : Nat) {s : Mem} (hm : MT s T) (h49 : rI s 84 49 = 1) (ht : Tf T) (h : Ag s 85 tp) (hb : Bys tp) (hl6 : tp.length ≤ 1600) : f_M_isImage (D + 3) (tp.length : Int) s = some (if imgB T tp then 1 else 0, s) := by
  have hn := ht.2.1
  have hg := ht.2.2.1
  have e1 : w32 ((w32 ((w32 (2 + (tN T : Int))) + (w32 (2 * (tG T : Int))))) + 1) = ((3 + tN T + 2 * tG T : Nat) : Int) := by
    rw [w32_i (z := 2 + (tN T : Int)) (by omega) (by omega), w32_i (z := 2 * (tG T : Int)) (by omega) (by omega), w32_i (z := 2 + (tN T : Int) + 2 * (tG T : Int)) (by omega) (by omega), w32_i (by omega) (by omega)]; omega
  rw [e_M_isImage, m_n (D + 1) hm, Option.bind_some]
  simp only []
  rw [h49, if_neg (by omega), m_g (D + 1) hm, Option.bind_some]
  simp only []
  rw [e1]
  unfold imgB
  by_cases c1 : tp.length = 3 + tN T + 2 * tG T
  · have hb2 := (hb.take (n := 2 + tN T + 2 * tG T))
    have hl2 : (tp.take (2 + tN T + 2 * tG T)).length = 2 + tN T + 2 * tG T := by rw [List.length_take]; omega
    have hc := m_ck85 (D + 1) (s := s) hb2 (by omega) h.take (2 + tN T + 2 * tG T) 0 (by omega)
    rw [hl2] at hc
    have hc' : f_M_checked_85 (D + 2) ((2 + tN T + 2 * tG T : Nat) : Int) s = some (ckF 223 (tp.take (2 + tN T + 2 * tG T)), s) := (e_M_checked_85 (D + 1) _ s).trans hc
    have em : w32 ((tp.length : Int) - 1) = ((2 + tN T + 2 * tG T : Nat) : Int) := by rw [w32_i (by omega) (by omega)]; omega
    have hM : rI s 85 (2 + tN T + 2 * tG T) = tg tp (2 + tN T + 2 * tG T) := h _ (by omega)
    rw [if_pos (by omega), if_pos c1, em, inB_n (by omega), hc', Option.bind_some, Int.toNat_natCast]
    simp only []
    rw [hM]
    by_cases c2 : tg tp (2 + tN T + 2 * tG T) = ckF 223 (tp.take (2 + tN T + 2 * tG T))
    · have q0 : rI s 85 0 = tg tp 0 := h _ (by omega)
      have q1 : rI s 85 1 = tg tp 1 := h _ (by omega)
      have r0 := tg_r hb (i := 0) (by omega)
      have r1 := tg_r hb (i := 1) (by omega)
      have e3 : w32 ((w32 (256 * tg tp 0)) + tg tp 1) = tg tp 0 * 256 + tg tp 1 := by
        rw [w32_i (z := 256 * tg tp 0) (by omega) (by omega), w32_i (by omega) (by omega)]; omega
      rw [if_pos c2, if_pos c2, q0, q1, e3]
      by_cases c3 : 999 < tg tp 0 * 256 + tg tp 1
      · rw [if_pos c3, if_pos c3]; rfl
      · have h76 := m_isI76 (D + 2) ht h c1 (tN T) 0 (by omega)
        have h101 := m_isI101 D ht hm h c1 hb (tG T) 0 (by omega)
        rw [if_neg c3, if_neg c3, show w32 (2 + (tN T : Int)) = ((2 + tN T : Nat) : Int) by rw [w32_i (by omega) (by omega)]; omega]
        refine h76.trans ?_
        by_cases c4 : hpB tp (tN T) 0 = true
        · rw [if_pos c4, if_pos c4]; exact h101
        · rw [if_neg c4, if_neg c4]; rfl
    · rw [if_neg c2, if_neg c2]; rfl
  · rw [if_neg (by omega), if_neg c1]; rfl
theorem m_on55 (D : Nat) (ht : Tf T) (hl : tp.length = 3 + tN T + 2 * tG T) : ∀ (j q : Nat) (s : Mem), q + j = tN T → MT s T → Ag s 85 tp → (∀ i, i < 24 → rI s 122 i = if i < 1 + q then onW T tp w i else w i) → ∃ s1, L_M_on_55 (D + 1) (q : Int) s = L_M_on_87 (D + 1) 0 s1 ∧ Fr (fun a i => a = 122 ∧ i < 24) s s1 ∧ ∀ i, i < 24 → rI s1 122 i = if i < 10 then onW T tp w i else w i
  | 0, q, s, hq, hm, ha, hv => by
    have hn := ht.2.1
    rw [e_M_on_55, m_n D hm, Option.bind_some, if_neg (by omega)]
    refine ⟨s, rfl, Fr.rf, fun i hi => ?_⟩
    rw [hv i hi]
    by_cases c : i < 1 + q
    · rw [if_pos c, if_pos (by omega)]
    · rw [if_neg c]
      by_cases c2 : i < 10
      · rw [if_pos c2]; unfold onW; rw [if_neg (by omega), if_neg (by omega), if_neg (by omega)]
      · rw [if_neg c2]
  | j + 1, q, s, hq, hm, ha, hv => by
    have hn := ht.2.1
    have hg := ht.2.2.1
    have hh : rI s 85 (2 + q) = tg tp (2 + q) := ha _ (by omega)
    have f1 : Fr (fun a i => a = 122 ∧ i < 24) s (wI s 122 (1 + q) (tg tp (2 + q))) := Fr.rf.w (by omega)
    rw [e_M_on_55, m_n D hm, Option.bind_some, if_pos (by omega), show w32 (2 + (q : Int)) = ((2 + q : Nat) : Int) by rw [w32_i (by omega) (by omega)]; omega, show w32 (1 + (q : Int)) = ((1 + q : Nat) : Int) by rw [w32_i (by omega) (by omega)]; omega, inB_n (by omega), inB_n (by omega), Int.toNat_natCast, Int.toNat_natCast, w32_s (by omega)]
    simp only []
    rw [hh]
    obtain ⟨s1, e1, f2, g2⟩ := m_on55 D ht hl j (q + 1) (wI s 122 (1 + q) (tg tp (2 + q))) (by omega) (hm.fr f1 (fun a i q => by omega)) (ha.fr f1 (fun i _ => by omega)) (fun i hi => by
      by_cases c : i = 1 + q
      · rw [c, rI_same, if_pos (by omega), onW_h (by omega)]
      · rw [rI_other _ _ _ _ (by omega), hv i hi]
        by_cases c2 : i < 1 + q
        · rw [if_pos c2, if_pos (by omega)]
        · rw [if_neg c2, if_neg (by omega)])
    exact ⟨s1, e1, f1.tr f2, g2⟩
theorem m_on87 (D : Nat) (ht : Tf T) (hl : tp.length = 3 + tN T + 2 * tG T) : ∀ (j k : Nat) (s : Mem), k + j = 2 * tG T → MT s T → Ag s 85 tp → (∀ i, i < 24 → rI s 122 i = if i < 10 + k then onW T tp w i else w i) → ∃ s1, L_M_on_87 (D + 1) (k : Int) s = some (1, wI (wI s1 122 24 0) 84 70 0) ∧ Fr (fun a i => a = 122 ∧ i < 24) s s1 ∧ ∀ i, i < 24 → rI s1 122 i = onW T tp w i
  | 0, k, s, hk, hm, ha, hv => by
    have hn := ht.2.1
    have hg := ht.2.2.1
    rw [e_M_on_87, m_g D hm, Option.bind_some, w32_i (by omega) (by omega), if_neg (by omega)]
    refine ⟨s, rfl, Fr.rf, fun i hi => ?_⟩
    rw [hv i hi]
    by_cases c : i < 10 + k
    · rw [if_pos c]
    · rw [if_neg c]
      unfold onW; rw [if_neg (by omega), if_neg (by omega), if_neg (by omega)]
  | j + 1, k, s, hk, hm, ha, hv => by
    have hn := ht.2.1
    have hg := ht.2.2.1
    have hh : rI s 85 (2 + tN T + k) = tg tp (2 + tN T + k) := ha _ (by omega)
    have f1 : Fr (fun a i => a = 122 ∧ i < 24) s (wI s 122 (10 + k) (tg tp (2 + tN T + k))) := Fr.rf.w (by omega)
    rw [e_M_on_87, m_g D hm, Option.bind_some, w32_i (z := 2 * (tG T : Int)) (by omega) (by omega), if_pos (by omega)]
    simp only []
    rw [m_n D hm, Option.bind_some]
    simp only []
    rw [w32_i (z := 2 + (tN T : Int)) (by omega) (by omega), show w32 (2 + (tN T : Int) + (k : Int)) = ((2 + tN T + k : Nat) : Int) by rw [w32_i (by omega) (by omega)]; omega, show w32 (10 + (k : Int)) = ((10 + k : Nat) : Int) by rw [w32_i (by omega) (by omega)]; omega, inB_n (by omega), inB_n (by omega), Int.toNat_natCast, Int.toNat_natCast, w32_s (by omega), hh]
    obtain ⟨s1, e1, f2, g2⟩ := m_on87 D ht hl j (k + 1) (wI s 122 (10 + k) (tg tp (2 + tN T + k))) (by omega) (hm.fr f1 (fun a i q => by omega)) (ha.fr f1 (fun i _ => by omega)) (fun i hi => by
      by_cases c : i = 10 + k
      · rw [c, rI_same, if_pos (by omega)]
        unfold onW; rw [if_neg (by omega), if_neg (by omega), if_pos (by omega), show 10 + k - 10 = k by omega]
      · rw [rI_other _ _ _ _ (by omega), hv i hi]
        by_cases c2 : i < 10 + k
        · rw [if_pos c2, if_pos (by omega)]
        · rw [if_neg c2, if_neg (by omega)])
    exact ⟨s1, e1, f1.tr f2, g2⟩
abbrev PMo : Nat → Nat → Prop := fun a i => a = 122 ∨ a = 84 ∧ (i = 1 ∨ i = 70)
theorem m_on (D : Nat) {s : Mem} {nx : Nat} {U : UL} (hm : MM s T w) (ht : Tf T) (h : MTp s tp) (hb : Bys tp) (hU : MU s nx U) : (imgB T tp = true → ∃ s1, f_M_on (D + 4) s = some (1, s1) ∧ Fr PMo s s1 ∧ MM s1 T (onW T tp w) ∧ MK s1 [] ∧ MU s1 nx [] ∧ MTp s1 []) ∧ (imgB T tp = false → f_M_on (D + 4) s = some (0, wI (wI s 84 1 0) 86 5 (w32 (rI s 86 5 + 1)))) := by
  obtain ⟨h1, h2, h3, h4, h5⟩ := hm
  have f0 : Fr PMo s (wI s 84 1 0) := Fr.rf.w (by unfold PMo; omega)
  have hp : PMT PMo := fun a i q => by unfold PMo at q; omega
  have m0 := h1.fr f0 hp
  have a0 : Ag (wI s 84 1 0) 85 tp := h.2.2.fr f0 (fun i _ => by unfold PMo; omega)
  have e0 := m_isImage D (s := wI s 84 1 0) m0 ((rI_other _ _ _ _ (by omega)).trans h3) ht a0 hb h.2.1
  rw [e_M_on, h.1, e0, Option.bind_some]
  simp only []
  constructor
  · intro hi
    have hn := ht.2.1
    have hg := ht.2.2.1
    obtain ⟨hl, g0, g1, g2, g3⟩ := imgB_t hi
    have r0 := tg_r hb (i := 0) (by omega)
    have r1 := tg_r hb (i := 1) (by omega)
    have q0 : rI (wI s 84 1 0) 85 0 = tg tp 0 := a0 _ (by omega)
    have q1 : rI (wI s 84 1 0) 85 1 = tg tp 1 := a0 _ (by omega)
    have e3 : w32 ((w32 (256 * tg tp 0)) + tg tp 1) = onW T tp w 0 := by
      rw [w32_i (z := 256 * tg tp 0) (by omega) (by omega), w32_i (by omega) (by omega), onW_0]; omega
    have f1 : Fr PMo s (wI (wI s 84 1 0) 122 0 (onW T tp w 0)) := f0.w (by unfold PMo; omega)
    obtain ⟨s1, e4, f4, v4⟩ := m_on55 (D + 2) (w := w) ht hl (tN T) 0 (wI (wI s 84 1 0) 122 0 (onW T tp w 0)) (by omega) (h1.fr f1 hp) (h.2.2.fr f1 (fun i _ => by unfold PMo; omega)) (fun i hi => by
      by_cases c : i = 0
      · rw [c, rI_same, if_pos (by omega)]
      · rw [rI_other _ _ _ _ (by omega), rI_other _ _ _ _ (by omega), if_neg (by omega)]; exact h2 i hi)
    have f14 : Fr PMo s s1 := f1.tr (f4.mo (fun a i q => by unfold PMo; omega))
    obtain ⟨s2, e5, f5, v5⟩ := m_on87 (D + 2) (w := w) ht hl (2 * tG T) 0 s1 (by omega) (h1.fr f14 hp) (h.2.2.fr f14 (fun i _ => by unfold PMo; omega)) (fun i hi => v4 i hi)
    have f15 : Fr PMo s s2 := f14.tr (f5.mo (fun a i q => by unfold PMo; omega))
    have f6 : Fr (fun a i => a = 122 ∧ i = 24 ∨ a = 84 ∧ i = 70) s2 (wI (wI s2 122 24 0) 84 70 0) := (Fr.rf.w (by omega)).w (by omega)
    have ff : Fr PMo s (wI (wI s2 122 24 0) 84 70 0) := f15.tr (f6.mo (fun a i q => by unfold PMo; omega))
    have e45 := e4.trans e5
    rw [hi, if_pos rfl, if_neg (show ¬ ((1 : Int) = 0) by decide), q0, q1, e3]
    refine ⟨_, e45, ff, ⟨h1.fr ff hp, fun i hi => (f6.i (by omega)).trans (v5 i hi), (ff.i (by unfold PMo; omega)).trans h3, (ff.i (by unfold PMo; omega)).trans h4, (ff.i (by unfold PMo; omega)).trans h5⟩, ⟨0, by omega, rfl, ?_, fun i hi => by omega⟩, ⟨(ff.i (by unfold PMo; omega)).trans hU.1, hU.2.1, rI_same _ _ _ _, by simp, fun i hi => absurd hi (Nat.not_lt_zero i)⟩, ⟨?_, by simp, fun i hi => absurd hi (Nat.not_lt_zero i)⟩⟩
    · rw [rI_other _ _ _ _ (by omega), rI_same]; rfl
    · rw [f6.i (by omega), f5.i (by omega), f4.i (by omega), rI_other _ _ _ _ (by omega), rI_same]; rfl
  · intro hi
    rw [hi, if_neg (show ¬ (false = true) by decide), if_pos rfl, rI_other _ _ _ _ (by omega)]
end ON
