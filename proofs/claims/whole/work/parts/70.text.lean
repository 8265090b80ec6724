/-! text: blanks, words, numbers; the class's tokens -/
def ch (tp : List Int) (i : Nat) : Int := if i < tp.length then tg tp i else -1
def isLt (c : Int) : Bool := decide (97 ≤ c) && decide (c ≤ 122)
def isDg (c : Int) : Bool := decide (48 ≤ c) && decide (c ≤ 57)
def isBk (c : Int) : Bool := decide (c = 10) || decide (c = 32)
def spn (p : Int → Bool) (tp : List Int) : Nat → Nat → Nat
  | 0, i => i
  | f + 1, i => if p (ch tp i) then spn p tp f (i + 1) else i
def ru (p : Int → Bool) (tp : List Int) (i : Nat) : Nat := spn p tp (tp.length - i) i
def sk (tp : List Int) (i : Nat) : Nat := ru isBk tp i
def le (tp : List Int) (i : Nat) : Nat := ru isLt tp i
def de (tp : List Int) (i : Nat) : Nat := ru isDg tp i
def pv (tp : List Int) (q : Nat) : Int := if q = 0 then -1 else ch tp (q - 1)
def gl (tp : List Int) (q : Nat) : Bool := isLt (pv tp q) || isDg (pv tp q)
/-- what kind of token begins here: 0 the end, 1 a word, 2 a number, 3 a sign, 4 no blank ahead -/
def kd (tp : List Int) (q : Nat) : Nat := if tp.length ≤ q then 0 else if isLt (ch tp q) = false ∧ isDg (ch tp q) = false then 3 else if gl tp q then 4 else if isLt (ch tp q) then 1 else 2
def en (tp : List Int) (q : Nat) : Nat := if kd tp q = 3 then q + 1 else if kd tp q = 1 then le tp q else if kd tp q = 2 then de tp q else q
def nx (tp : List Int) (q : Nat) : Nat := sk tp (en tp q)
def slc (tp : List Int) (a b : Nat) : List Int := (tp.drop a).take (b - a)
def WD : List (List Int) := [[116, 97, 98, 108, 101], [103, 117, 101, 115, 116], [97, 116], [119, 101, 116], [104, 111, 116], [104, 111, 111, 112], [115, 119, 101, 108, 108, 115], [115, 116, 97, 114, 116, 115], [115, 112, 105, 108, 108, 115], [116, 111, 97, 115, 116], [115, 119, 101, 108, 108], [109, 105, 110, 117, 116, 101], [108, 101, 102, 116], [114, 105, 103, 104, 116], [104, 111, 111, 112, 101, 100], [108, 111, 97, 100], [115, 105, 122, 101], [110, 117, 109, 98, 101, 114], [115, 101, 97, 116], [98, 101, 115, 105, 100, 101], [102, 97, 114], [111, 114], [97, 110, 100], [110, 111, 116], [97, 108, 108], [109, 105, 110], [109, 97, 120], [102, 105, 114, 115, 116], [108, 97, 115, 116], [111, 102, 116, 101, 110], [116, 111, 116, 97, 108], [109, 111, 115, 116], [108, 101, 97, 115, 116]]
theorem WD_str : WD.flatMap (fun w => w ++ [32]) = wordsL := by decide +kernel
theorem WD_32 : ∀ w ∈ WD, ∀ x ∈ w, x ≠ 32 := by decide +kernel
def fwI (ls : List Int) : List (List Int) → Int → Int
  | [], _ => -1
  | w :: ws, k => if ls = w then k else fwI ls ws (k + 1)
def wd (tp : List Int) (q : Nat) : Int := if kd tp q = 1 then fwI (slc tp q (le tp q)) WD 0 else -1
def sg (tp : List Int) (q : Nat) : Int := if kd tp q = 3 then ch tp q else -1
def nuF (tp : List Int) : Nat → Int → Nat → Int
  | 0, v, _ => v
  | n + 1, v, i => nuF tp n (10 * v + ch tp i - 48) (i + 1)
def nu (tp : List Int) (q : Nat) : Int := nuF tp (min 4 (de tp q - q)) 0 q
section TEXT
variable {tp : List Int}
theorem ru_e {p : Int → Bool} {i : Nat} (h : tp.length ≤ i) : ru p tp i = i := by
  unfold ru
  rw [show tp.length - i = 0 by omega]
  rfl
theorem ru_s {p : Int → Bool} {i : Nat} (h : i < tp.length) : ru p tp i = if p (ch tp i) then ru p tp (i + 1) else i := by
  unfold ru
  rw [show tp.length - i = (tp.length - (i + 1)) + 1 by omega]
  rfl
theorem ru_pF {p : Int → Bool} : ∀ f i, i + f = tp.length → i ≤ ru p tp i ∧ ru p tp i ≤ tp.length ∧ (ru p tp i < tp.length → p (ch tp (ru p tp i)) = false) ∧ ∀ j, i ≤ j → j < ru p tp i → p (ch tp j) = true
  | 0, i, h => by
    rw [ru_e (by omega)]
    exact ⟨by omega, by omega, by omega, by omega⟩
  | f + 1, i, h => by
    rw [ru_s (by omega)]
    obtain ⟨h1, h2, h3, h4⟩ := ru_pF (p := p) f (i + 1) (by omega)
    by_cases c : p (ch tp i) = true
    · rw [if_pos c]
      refine ⟨by omega, h2, h3, fun j a b => ?_⟩
      by_cases e : j = i
      · rw [e]; exact c
      · exact h4 j (by omega) b
    · rw [if_neg c]
      exact ⟨by omega, by omega, fun _ => Bool.eq_false_iff.mpr c, by omega⟩
theorem ru_p {p : Int → Bool} {i : Nat} (h : i ≤ tp.length) : i ≤ ru p tp i ∧ ru p tp i ≤ tp.length ∧ (ru p tp i < tp.length → p (ch tp (ru p tp i)) = false) ∧ ∀ j, i ≤ j → j < ru p tp i → p (ch tp j) = true := ru_pF (tp.length - i) i (by omega)
theorem ru_id {p : Int → Bool} {i : Nat} (h : i < tp.length → p (ch tp i) = false) : ru p tp i = i := by
  by_cases c : i < tp.length
  · rw [ru_s c, h c]; rfl
  · exact ru_e (by omega)
theorem ch_i {i : Nat} (h : i < tp.length) : ch tp i = tg tp i := if_pos h
theorem ch_r (hb : Bys tp) {i : Nat} : -1 ≤ ch tp i ∧ ch tp i ≤ 255 := by
  unfold ch
  split
  · next h => have := tg_r hb h; omega
  · omega
/-- a token may begin here -/
def St (tp : List Int) (q : Nat) : Prop := q ≤ tp.length ∧ (q < tp.length → isBk (ch tp q) = false)
theorem St.sk {i : Nat} (h : i ≤ tp.length) : St tp (sk tp i) := ⟨(ru_p h).2.1, (ru_p h).2.2.1⟩
theorem sk_id {q : Nat} (h : St tp q) : sk tp q = q := ru_id h.2
theorem kd_lt {q : Nat} (h : kd tp q ≠ 0) : q < tp.length := by
  unfold kd at h
  split at h
  · exact absurd rfl h
  · omega
theorem kd_0 {q : Nat} : kd tp q = 0 ↔ tp.length ≤ q := by
  unfold kd
  constructor
  · intro h
    split at h
    · assumption
    · split at h
      · cases h
      · split at h
        · cases h
        · split at h <;> cases h
  · intro h; rw [if_pos h]
theorem kd_1 {q : Nat} (h : kd tp q = 1) : q < tp.length ∧ isLt (ch tp q) = true ∧ gl tp q = false := by
  unfold kd at h
  split at h
  · cases h
  · split at h
    · cases h
    · split at h
      · cases h
      · split at h
        · next h1 h2 h3 h4 => exact ⟨by omega, h4, Bool.eq_false_iff.mpr h3⟩
        · cases h
theorem kd_2 {q : Nat} (h : kd tp q = 2) : q < tp.length ∧ isDg (ch tp q) = true ∧ gl tp q = false := by
  unfold kd at h
  split at h
  · cases h
  · split at h
    · cases h
    · split at h
      · cases h
      · split at h
        · cases h
        · next h1 h2 h3 h4 =>
          refine ⟨by omega, ?_, Bool.eq_false_iff.mpr h3⟩
          cases c : isDg (ch tp q)
          · exact absurd ⟨Bool.eq_false_iff.mpr h4, c⟩ h2
          · rfl
theorem kd_3 {q : Nat} (h : kd tp q = 3) : q < tp.length ∧ isLt (ch tp q) = false ∧ isDg (ch tp q) = false := by
  unfold kd at h
  split at h
  · cases h
  · split at h
    · next h1 h2 => exact ⟨by omega, h2⟩
    · split at h
      · cases h
      · split at h <;> cases h
theorem kd_4 {q : Nat} (h : kd tp q = 4) : q < tp.length ∧ gl tp q = true ∧ (isLt (ch tp q) = true ∨ isDg (ch tp q) = true) := by
  unfold kd at h
  split at h
  · cases h
  · split at h
    · cases h
    · split at h
      · next h1 h2 h3 =>
        refine ⟨by omega, h3, ?_⟩
        cases a : isLt (ch tp q)
        · cases b : isDg (ch tp q)
          · exact absurd ⟨a, b⟩ h2
          · exact Or.inr rfl
        · exact Or.inl rfl
      · split at h <;> cases h
theorem lt_dg {c : Int} (h : isLt c = true) : isDg c = false := by
  unfold isLt at h
  unfold isDg
  rw [Bool.and_eq_true, decide_eq_true_iff, decide_eq_true_iff] at h
  rw [Bool.and_eq_false_iff, decide_eq_false_iff_not, decide_eq_false_iff_not]
  omega
theorem dg_lt {c : Int} (h : isDg c = true) : isLt c = false := by
  cases e : isLt c
  · rfl
  · rw [lt_dg e] at h; cases h
theorem kd_5 (q : Nat) : kd tp q = 0 ∨ kd tp q = 1 ∨ kd tp q = 2 ∨ kd tp q = 3 ∨ kd tp q = 4 := by
  unfold kd
  repeat' split
  all_goals simp
theorem en_p {q : Nat} (h : q ≤ tp.length) : q ≤ en tp q ∧ en tp q ≤ tp.length := by
  unfold en
  split
  · next c => have := (kd_3 c).1; omega
  · split
    · exact ⟨(ru_p h).1, (ru_p h).2.1⟩
    · split
      · exact ⟨(ru_p h).1, (ru_p h).2.1⟩
      · omega
theorem en_lt {q : Nat} (h : kd tp q ≠ 0 ∧ kd tp q ≠ 4) : q < en tp q := by
  unfold en
  rcases kd_5 (tp := tp) q with c | c | c | c | c
  · exact absurd c h.1
  · rw [if_neg (by omega), if_pos c]
    obtain ⟨h1, h2, -⟩ := kd_1 c
    unfold le
    rw [ru_s h1, if_pos h2]
    exact (ru_p (by omega)).1
  · rw [if_neg (by omega), if_neg (by omega), if_pos c]
    obtain ⟨h1, h2, -⟩ := kd_2 c
    unfold de
    rw [ru_s h1, if_pos h2]
    exact (ru_p (by omega)).1
  · rw [if_pos c]; omega
  · exact absurd c h.2
theorem nx_p {q : Nat} (h : q ≤ tp.length) : q ≤ nx tp q ∧ St tp (nx tp q) := by
  have h1 := en_p h
  have h2 := ru_p (p := isBk) h1.2
  exact ⟨by unfold nx sk; omega, St.sk h1.2⟩
theorem nx_lt {q : Nat} (h : kd tp q ≠ 0 ∧ kd tp q ≠ 4) : q < nx tp q := by
  have h0 := kd_lt h.1
  have h1 := en_p (tp := tp) (q := q) (by omega)
  have h2 := ru_p (p := isBk) h1.2
  have := en_lt h
  unfold nx sk
  omega
theorem sg_3 {q : Nat} {c : Int} (h : sg tp q = c) (hc : c ≠ -1) : kd tp q = 3 ∧ ch tp q = c := by
  unfold sg at h
  split at h
  · next k => exact ⟨k, h⟩
  · exact absurd h.symm hc
theorem wd_1 {q : Nat} (h : wd tp q ≠ -1) : kd tp q = 1 := by
  unfold wd at h
  split at h
  · assumption
  · exact absurd rfl h
theorem sg_k {q : Nat} (h : sg tp q ≠ -1) : kd tp q = 3 := (sg_3 rfl h).1
theorem nuF_r : ∀ (n : Nat) (v : Int) (i m : Nat), 0 ≤ v → v < (10 ^ m : Nat) → (∀ j, i ≤ j → j < i + n → isDg (ch tp j) = true) → 0 ≤ nuF tp n v i ∧ nuF tp n v i < (10 ^ (m + n) : Nat)
  | 0, v, i, m, h0, h1, _ => ⟨h0, h1⟩
  | n + 1, v, i, m, h0, h1, hd => by
    have d := hd i (by omega) (by omega)
    unfold isDg at d
    rw [Bool.and_eq_true, decide_eq_true_iff, decide_eq_true_iff] at d
    have e : (10 ^ (m + 1) : Nat) = 10 * 10 ^ m := by rw [Nat.pow_succ, Nat.mul_comm]
    have := nuF_r n (10 * v + ch tp i - 48) (i + 1) (m + 1) (by omega) (by rw [e]; omega) (fun j a b => hd j (by omega) (by omega))
    rw [show m + 1 + n = m + (n + 1) by omega] at this
    exact this
theorem nu_r {q : Nat} (h : q ≤ tp.length) : 0 ≤ nu tp q ∧ nu tp q ≤ 9999 := by
  have := nuF_r (tp := tp) (min 4 (de tp q - q)) 0 q 0 (by omega) (by decide) (fun j a b => (ru_p (p := isDg) h).2.2.2 j a (by unfold de at b; omega))
  have h4 : (10 ^ (0 + min 4 (de tp q - q)) : Nat) ≤ 10 ^ 4 := Nat.pow_le_pow_right (by omega) (by omega)
  unfold nu
  omega
/-! the class's tokens -/
theorem x_isL (D : Nat) (c : Int) (s : Mem) : f_Rd_isLetter (D + 1) c s = some (if isLt c then 1 else 0, s) := by
  rw [e_Rd_isLetter]
  unfold isLt
  by_cases h : c < 97
  · rw [if_pos h, decide_eq_false (by omega)]; rfl
  · rw [if_neg h, decide_eq_true (by omega)]
    by_cases h2 : 122 < c
    · rw [if_pos h2, decide_eq_false (by omega)]; rfl
    · rw [if_neg h2, decide_eq_true (by omega)]; rfl
theorem x_isD (D : Nat) (c : Int) (s : Mem) : f_Rd_isDigit (D + 1) c s = some (if isDg c then 1 else 0, s) := by
  rw [e_Rd_isDigit]
  unfold isDg
  by_cases h : c < 48
  · rw [if_pos h, decide_eq_false (by omega)]; rfl
  · rw [if_neg h, decide_eq_true (by omega)]
    by_cases h2 : 57 < c
    · rw [if_pos h2, decide_eq_false (by omega)]; rfl
    · rw [if_neg h2, decide_eq_true (by omega)]; rfl
theorem x_isB (D : Nat) (c : Int) (s : Mem) : f_Rd_isBlank (D + 1) c s = some (if isBk c then 1 else 0, s) := by
  rw [e_Rd_isBlank]
  unfold isBk
  by_cases h : c = 10
  · rw [if_pos h, decide_eq_true h]; rfl
  · rw [if_neg h, decide_eq_false h]
    by_cases h2 : c = 32
    · rw [if_pos h2, decide_eq_true h2]; rfl
    · rw [if_neg h2, decide_eq_false h2]; rfl
theorem x_at (D : Nat) {s : Mem} (h : XTp s tp) (i : Nat) : f_Tape_byteAt (D + 1) (i : Int) s = some (ch tp i, s) := by
  by_cases c : i < tp.length
  · rw [x_byteAt D h c, ch_i c]
  · have := h.2.1
    unfold ch
    rw [e_Tape_byteAt, if_neg (by omega), h.1, if_neg (by omega), if_neg c]
theorem XTp.fr {s s' : Mem} {P : Nat → Nat → Prop} (h : XTp s tp) (hf : Fr P s s') (hp : ∀ a k, P a k → (a ≠ 1 ∨ k ≠ 1) ∧ a ≠ 2) : XTp s' tp := ⟨(hf.i (fun q => by have := hp _ _ q; omega)).trans h.1, h.2.1, h.2.2.fr hf (fun i _ q => (hp _ _ q).2 rfl)⟩
/-- the reader stands at the token that begins here -/
def XRd (s : Mem) (tp : List Int) (q : Nat) : Prop := rI s 3 9 = (q : Int) ∧ rI s 3 10 = (en tp q : Int) ∧ rI s 3 8 = (kd tp q : Int) ∧ rI s 3 11 = wd tp q ∧ rI s 3 12 = sg tp q ∧ (kd tp q = 2 → rI s 3 13 = nu tp q)
theorem XRd.fr {s s' : Mem} {q : Nat} {P : Nat → Nat → Prop} (h : XRd s tp q) (hf : Fr P s s') (hp : ∀ a k, P a k → a ≠ 3 ∨ k < 8 ∨ 13 < k) : XRd s' tp q := by
  obtain ⟨h1, h2, h3, h4, h5, h6⟩ := h
  have g : ∀ k, 8 ≤ k → k ≤ 13 → rI s' 3 k = rI s 3 k := fun k a b => hf.i (fun q => by have := hp _ _ q; omega)
  exact ⟨(g 9 (by omega) (by omega)).trans h1, (g 10 (by omega) (by omega)).trans h2, (g 8 (by omega) (by omega)).trans h3, (g 11 (by omega) (by omega)).trans h4, (g 12 (by omega) (by omega)).trans h5, fun c => (g 13 (by omega) (by omega)).trans (h6 c)⟩
theorem x_next8 (D : Nat) : ∀ (f i : Nat) (s : Mem), i + f = tp.length → XTp s tp → rI s 3 9 = (i : Int) → ∃ s1, L_Rd_next_8 (D + 1) s = L_Rd_next_52 (D + 1) s1 ∧ Fr (fun a k => a = 3 ∧ k = 9) s s1 ∧ rI s1 3 9 = (sk tp i : Int)
  | 0, i, s, hi, h, h9 => by
    have hl := h.2.1
    rw [e_Rd_next_8, h9, h.1, if_neg (by omega)]
    refine ⟨s, rfl, Fr.rf, ?_⟩
    unfold sk
    rw [ru_e (by omega)]
    exact h9
  | f + 1, i, s, hi, h, h9 => by
    have hl := h.2.1
    rw [e_Rd_next_8, h9, h.1, if_pos (by omega), x_at D h, Option.bind_some]
    simp only []
    rw [x_isB, Option.bind_some]
    simp only []
    unfold sk
    rw [ru_s (by omega)]
    by_cases c : isBk (ch tp i) = true
    · have f1 : Fr (fun a k => a = 3 ∧ k = 9) s (wI s 3 9 ((i + 1 : Nat) : Int)) := Fr.rf.w ⟨rfl, rfl⟩
      obtain ⟨s1, e1, f2, g1⟩ := x_next8 D f (i + 1) (wI s 3 9 ((i + 1 : Nat) : Int)) (by omega) (h.fr f1 (fun a k q => by omega)) (rI_same _ _ _ _)
      rw [if_pos c, if_neg (show ¬ ((1 : Int) = 0) by decide), if_pos c, h9, w32_s (by omega)]
      exact ⟨s1, e1, f1.tr f2, g1⟩
    · rw [if_neg c, if_pos rfl, if_neg c]
      exact ⟨s, rfl, Fr.rf, h9⟩
theorem x_len (D : Nat) (s : Mem) : f_len (D + 1) s = some ((wordsL.length : Int), s) := rfl
set_option maxRecDepth 100000 in
theorem x_chr (D : Nat) (s : Mem) {k : Nat} (h : k < wordsL.length) : f_charAt (D + 1) (k : Int) s = some (wordsL.getD k 0, s) := by
  have : f_charAt (D + 1) (k : Int) s = if 0 ≤ (k : Int) ∧ (k : Int) < (wordsL.length : Int) then some (wordsL.getD (k : Int).toNat 0, s) else none := rfl
  rw [this, if_pos ⟨by omega, by omega⟩, Int.toNat_natCast]
theorem drop_h {ls : List Int} {f : Nat} {x : Int} {r : List Int} (h : ls.drop f = x :: r) : f < ls.length ∧ ls.getD f 0 = x ∧ ls.drop (f + 1) = r := by
  have h1 : f < ls.length := by
    rcases Nat.lt_or_ge f ls.length with c | c
    · exact c
    · rw [List.drop_eq_nil_of_le c] at h; cases h
  rw [List.drop_eq_getElem_cons h1] at h
  injection h with h2 h3
  refine ⟨h1, ?_, h3⟩
  rw [List.getD_eq_getElem?_getD, List.getElem?_eq_getElem h1]
  exact h2
theorem slc_c {a b : Nat} (h : a < b) (hb : b ≤ tp.length) : slc tp a b = tg tp a :: slc tp (a + 1) b := by
  unfold slc
  rw [List.drop_eq_getElem_cons (by omega), show b - a = (b - (a + 1)) + 1 by omega, List.take_succ_cons]
  congr 1
  unfold tg
  rw [List.getD_eq_getElem?_getD, List.getElem?_eq_getElem (by omega)]
  rfl
theorem slc_e (a : Nat) : slc tp a a = [] := by
  unfold slc
  rw [Nat.sub_self]; rfl
theorem WDlen : wordsL.length < 1000 := by decide +kernel
theorem x_fw12 (D : Nat) {s : Mem} {q e : Nat} (h : XTp s tp) (h9 : rI s 3 9 = (q : Int)) (h10 : rI s 3 10 = (e : Int)) (he : e ≤ tp.length) : ∀ (w : List Int), (∀ x ∈ w, x ≠ 32) → ∀ (r : List Int) (b c fl : Int) (cn f : Nat), (c = (cn : Int) ∧ cn ≤ 3000) → (fl = 1 ∧ cn ≤ e ∨ fl = 0) → wordsL.drop f = w ++ 32 :: r → (0 ≤ b ∧ b < 1000) → cn + w.length < 3000 → L_Rd_findWord_12 (D + 1) b c fl (f : Int) s = if fl = 1 ∧ slc tp cn e = w then some (b, s) else L_Rd_findWord_12 (D + 1) (b + 1) (q : Int) 1 ((f + w.length + 1 : Nat) : Int) s
  | [], hw, r, b, c, fl, cn, f, hc, hfl, hd, hb, hcn => by
    have hl := h.2.1
    have hwl := WDlen
    obtain ⟨f1, f2, f3⟩ := drop_h (show wordsL.drop f = 32 :: r from hd)
    rw [e_Rd_findWord_12, x_len, Option.bind_some, if_pos (by omega)]
    simp only []
    rw [x_chr D s f1, Option.bind_some, f2]
    simp only []
    rw [if_pos trivial, h9, h10, w32_s (by omega), w32_i (z := b + 1) (by omega) (by omega)]
    rcases hfl with ⟨rfl, hfl⟩ | rfl
    · rw [if_neg (show ¬ ((1 : Int) = 0) by decide), hc.1]
      by_cases ce : cn = e
      · rw [if_pos (by omega), ce, slc_e, if_pos ⟨rfl, rfl⟩]
      · rw [if_neg (by omega), slc_c (by omega) he, if_neg (fun q => by cases q.2)]
        rfl
    · rw [if_pos rfl, if_neg (fun q => absurd q.1 (by decide))]
      rfl
  | x :: w, hw, r, b, c, fl, cn, f, hc, hfl, hd, hb, hcn => by
    have hl := h.2.1
    have hwl := WDlen
    have hx : x ≠ 32 := hw x List.mem_cons_self
    obtain ⟨f1, f2, f3⟩ := drop_h (show wordsL.drop f = x :: (w ++ 32 :: r) from hd)
    have hcl : (x :: w).length = w.length + 1 := rfl
    rw [hcl] at hcn ⊢
    have ih : ∀ fl' : Int, (fl' = 1 ∧ cn + 1 ≤ e ∨ fl' = 0) → L_Rd_findWord_12 (D + 1) b ((cn + 1 : Nat) : Int) fl' ((f + 1 : Nat) : Int) s = if fl' = 1 ∧ slc tp (cn + 1) e = w then some (b, s) else L_Rd_findWord_12 (D + 1) (b + 1) (q : Int) 1 ((f + (w.length + 1) + 1 : Nat) : Int) s := fun fl' hfl' => by
      have := x_fw12 D h h9 h10 he w (fun y hy => hw y (List.mem_cons_of_mem _ hy)) r b ((cn + 1 : Nat) : Int) fl' (cn + 1) (f + 1) ⟨rfl, by omega⟩ hfl' f3 hb (by omega)
      rw [show f + 1 + w.length + 1 = f + (w.length + 1) + 1 by omega] at this
      exact this
    rw [e_Rd_findWord_12, x_len, Option.bind_some, if_pos (by omega)]
    simp only []
    rw [x_chr D s f1, Option.bind_some, f2]
    simp only []
    rw [if_neg hx, h10, hc.1, w32_s (by omega), w32_s (by omega)]
    rcases hfl with ⟨rfl, hfl⟩ | rfl
    · rw [if_neg (show ¬ ((1 : Int) = 0) by decide), if_neg (by omega)]
      by_cases ce : cn < e
      · rw [if_pos (by omega), if_pos (by omega), inB_n (by omega), Int.toNat_natCast, h.2.2 cn (by omega), slc_c ce he]
        by_cases cx : tp.getD cn 0 = x
        · rw [if_pos cx, ih 1 (Or.inl ⟨rfl, by omega⟩)]
          have e1 : (tg tp cn :: slc tp (cn + 1) e = x :: w) ↔ slc tp (cn + 1) e = w := by
            have : tg tp cn = x := cx
            rw [this, List.cons_eq_cons]
            exact ⟨fun q => q.2, fun q => ⟨rfl, q⟩⟩
          by_cases c2 : slc tp (cn + 1) e = w
          · rw [if_pos ⟨rfl, c2⟩, if_pos ⟨rfl, e1.mpr c2⟩]
          · rw [if_neg (fun q => c2 q.2), if_neg (fun q => c2 (e1.mp q.2))]
        · rw [if_neg cx, ih 0 (Or.inr rfl), if_neg (fun q => absurd q.1 (by decide)), if_neg]
          rintro ⟨-, q⟩
          exact cx (List.cons_eq_cons.mp q).1
      · rw [if_neg (by omega), ih 0 (Or.inr rfl), if_neg (fun q => absurd q.1 (by decide)), if_neg]
        rintro ⟨-, q⟩
        rw [show cn = e by omega, slc_e] at q
        cases q
    · rw [if_pos rfl, ih 0 (Or.inr rfl), if_neg (fun q => absurd q.1 (by decide)), if_neg (fun q => absurd q.1 (by decide))]
theorem x_fw (D : Nat) {s : Mem} {q e : Nat} (h : XTp s tp) (h9 : rI s 3 9 = (q : Int)) (h10 : rI s 3 10 = (e : Int)) (hq : q ≤ e) (he : e ≤ tp.length) : ∀ (ws : List (List Int)), (∀ w ∈ ws, ∀ x ∈ w, x ≠ 32) → (∀ w ∈ ws, w.length ≤ 6) → ∀ (b f : Nat), b + ws.length < 100 → wordsL.drop f = ws.flatMap (fun w => w ++ [32]) → f ≤ wordsL.length → L_Rd_findWord_12 (D + 1) (b : Int) (q : Int) 1 (f : Int) s = some (fwI (slc tp q e) ws (b : Int), s)
  | [], _, _, b, f, hb, hd, hf => by
    have hl : wordsL.length ≤ f := by
      rcases Nat.lt_or_ge f wordsL.length with c | c
      · rw [List.drop_eq_getElem_cons c] at hd; cases hd
      · exact c
    rw [e_Rd_findWord_12, x_len, Option.bind_some, if_neg (by omega)]
    rfl
  | w :: ws, hw, h6, b, f, hb, hd, hf => by
    have hl := h.2.1
    have hw6 := h6 w List.mem_cons_self
    have hd2 : wordsL.drop f = w ++ 32 :: ws.flatMap (fun w => w ++ [32]) := by
      rw [hd, List.flatMap_cons, List.append_assoc]; rfl
    have hb2 : b + ws.length < 99 := by simp only [List.length_cons] at hb; omega
    rw [x_fw12 D h h9 h10 he w (hw w List.mem_cons_self) _ (b : Int) (q : Int) 1 q f ⟨rfl, by omega⟩ (Or.inl ⟨rfl, hq⟩) hd2 ⟨by omega, by omega⟩ (by omega)]
    unfold fwI
    by_cases c : slc tp q e = w
    · rw [if_pos ⟨rfl, c⟩, if_pos c]
    · rw [if_neg (fun q => c q.2), if_neg c]
      have hlen : f + w.length + 1 ≤ wordsL.length := by
        have e2 := congrArg List.length hd2
        rw [List.length_drop, List.length_append, List.length_cons] at e2
        omega
      have hd3 : wordsL.drop (f + w.length + 1) = ws.flatMap (fun w => w ++ [32]) := by
        rw [show f + w.length + 1 = f + (w.length + 1) by omega, ← List.drop_drop, hd2]
        rw [show w.length + 1 = w.length + 1 from rfl, ← List.drop_drop, List.drop_left]
        rfl
      have := x_fw D h h9 h10 hq he ws (fun y hy => hw y (List.mem_cons_of_mem _ hy)) (fun y hy => h6 y (List.mem_cons_of_mem _ hy)) (b + 1) (f + w.length + 1) (by omega) hd3 hlen
      exact this
theorem WD_6 : ∀ w ∈ WD, w.length ≤ 6 := by decide +kernel
theorem x_findWord (D : Nat) {s : Mem} {q e : Nat} (h : XTp s tp) (h9 : rI s 3 9 = (q : Int)) (h10 : rI s 3 10 = (e : Int)) (hq : q ≤ e) (he : e ≤ tp.length) : f_Rd_findWord (D + 2) s = some (fwI (slc tp q e) WD 0, s) := by
  rw [e_Rd_findWord, h9]
  exact x_fw D h h9 h10 hq he WD WD_32 WD_6 0 0 (by decide) (by rw [WD_str]; rfl) (by omega)
theorem x_fn7 (D : Nat) {s : Mem} {q e : Nat} (h : XTp s tp) (hb : Bys tp) (h9 : rI s 3 9 = (q : Int)) (h10 : rI s 3 10 = (e : Int)) (he : e ≤ tp.length) : ∀ (n i : Nat) (v : Int), i + n = q + min 4 (e - q) → q ≤ i → q ≤ e → (0 ≤ v ∧ v < (10 ^ (i - q) : Nat)) → (∀ j, q ≤ j → j < e → isDg (ch tp j) = true) → L_Rd_findNumber_7 D v (i : Int) s = some (nuF tp n v i, s)
  | 0, i, v, hi, hq, hqe, hv2, hd => by
    have hl := h.2.1
    rw [e_Rd_findNumber_7, h10, h9, w32_i (by omega) (by omega)]
    by_cases c : (i : Int) < (e : Int)
    · rw [if_pos c, if_neg (by omega)]; rfl
    · rw [if_neg c]; rfl
  | n + 1, i, v, hi, hq, hqe, hv2, hd => by
    have hl := h.2.1
    have d := hd i hq (by omega)
    have hp : 10 ^ (i - q) ≤ 10 ^ 3 := Nat.pow_le_pow_right (by omega) (by omega)
    have e1 : (10 ^ (i + 1 - q) : Nat) = 10 * 10 ^ (i - q) := by rw [show i + 1 - q = (i - q) + 1 by omega, Nat.pow_succ, Nat.mul_comm]
    unfold isDg at d
    rw [Bool.and_eq_true, decide_eq_true_iff, decide_eq_true_iff] at d
    have hci := ch_i (tp := tp) (i := i) (by omega)
    have hr : rI s 2 i = ch tp i := by rw [hci]; exact h.2.2 i (by omega)
    rw [e_Rd_findNumber_7, h10, h9, w32_i (z := (q : Int) + 4) (by omega) (by omega), if_pos (by omega), if_pos (by omega), if_neg (by omega), if_pos (by omega), inB_n (by omega), Int.toNat_natCast, hr, w32_i (z := 10 * v) (by omega) (by omega), w32_i (z := 10 * v + ch tp i) (by omega) (by omega), w32_i (z := 10 * v + ch tp i - 48) (by omega) (by omega), w32_s (by omega)]
    have hb1 : (0 : Int) ≤ 10 * v + ch tp i - 48 := by omega
    have hb2 : 10 * v + ch tp i - 48 < (10 ^ (i + 1 - q) : Nat) := by rw [e1]; omega
    exact x_fn7 D h hb h9 h10 he n (i + 1) _ (by omega) (by omega) hqe ⟨hb1, hb2⟩ hd
theorem x_findNumber (D : Nat) {s : Mem} {q : Nat} (h : XTp s tp) (hb : Bys tp) (hq : q ≤ tp.length) (h9 : rI s 3 9 = (q : Int)) (h10 : rI s 3 10 = (de tp q : Int)) : f_Rd_findNumber (D + 1) s = some (nu tp q, s) := by
  have hr := ru_p (p := isDg) hq
  rw [e_Rd_findNumber, h9]
  exact x_fn7 D h hb h9 h10 hr.2.1 (min 4 (de tp q - q)) q 0 rfl (Nat.le_refl _) hr.1 ⟨by omega, by rw [Nat.sub_self]; decide⟩ (fun j a b => hr.2.2.2 j a b)
abbrev PRd : Nat → Nat → Prop := fun a k => a = 3 ∧ 8 ≤ k ∧ k ≤ 13
theorem x_next189 (D : Nat) {q : Nat} (hq : q ≤ tp.length) : ∀ (f i : Nat) (s : Mem), i + f = tp.length → q ≤ i → XTp s tp → rI s 3 9 = (q : Int) → rI s 3 10 = (i : Int) → ∃ s1, L_Rd_next_189 (D + 2) s = some (0, wI s1 3 11 (fwI (slc tp q (le tp i)) WD 0)) ∧ Fr (fun a k => a = 3 ∧ k = 10) s s1 ∧ rI s1 3 10 = (le tp i : Int)
  | 0, i, s, hi, hqi, h, h9, h10 => by
    have hl := h.2.1
    have e1 : le tp i = i := ru_e (by omega)
    rw [e_Rd_next_189, h10, h.1, if_neg (by omega), x_findWord D h h9 h10 hqi (by omega), Option.bind_some, e1]
    exact ⟨s, rfl, Fr.rf, h10⟩
  | f + 1, i, s, hi, hqi, h, h9, h10 => by
    have hl := h.2.1
    have e1 : le tp i = if isLt (ch tp i) then le tp (i + 1) else i := ru_s (by omega)
    rw [e_Rd_next_189, h10, h.1, if_pos (by omega), x_at (D + 1) h, Option.bind_some]
    simp only []
    rw [x_isL, Option.bind_some, e1]
    simp only []
    by_cases c : isLt (ch tp i) = true
    · have f1 : Fr (fun a k => a = 3 ∧ k = 10) s (wI s 3 10 ((i + 1 : Nat) : Int)) := Fr.rf.w ⟨rfl, rfl⟩
      obtain ⟨s1, e2, f2, g2⟩ := x_next189 D hq f (i + 1) (wI s 3 10 ((i + 1 : Nat) : Int)) (by omega) (by omega) (h.fr f1 (fun a k q => by omega)) ((rI_other _ _ _ _ (by omega)).trans h9) (rI_same _ _ _ _)
      rw [if_pos c, if_neg (show ¬ ((1 : Int) = 0) by decide), if_pos c, h10, w32_s (by omega)]
      exact ⟨s1, e2, f1.tr f2, g2⟩
    · rw [if_neg c, if_pos rfl, if_neg c, x_findWord D h h9 h10 hqi (by omega), Option.bind_some]
      exact ⟨s, rfl, Fr.rf, h10⟩
theorem x_next249 (D : Nat) {q : Nat} (hq : q ≤ tp.length) (hb : Bys tp) : ∀ (f i : Nat) (s : Mem), i + f = tp.length → q ≤ i → de tp q = de tp i → XTp s tp → rI s 3 9 = (q : Int) → rI s 3 10 = (i : Int) → ∃ s1, L_Rd_next_249 (D + 1) s = some (0, wI s1 3 13 (nu tp q)) ∧ Fr (fun a k => a = 3 ∧ k = 10) s s1 ∧ rI s1 3 10 = (de tp i : Int)
  | 0, i, s, hi, hqi, hd, h, h9, h10 => by
    have hl := h.2.1
    have e1 : de tp i = i := ru_e (by omega)
    rw [e_Rd_next_249, h10, h.1, if_neg (by omega), x_findNumber D h hb hq h9 (by rw [hd, e1]; exact h10), Option.bind_some, e1]
    exact ⟨s, rfl, Fr.rf, h10⟩
  | f + 1, i, s, hi, hqi, hd, h, h9, h10 => by
    have hl := h.2.1
    have e1 : de tp i = if isDg (ch tp i) then de tp (i + 1) else i := ru_s (by omega)
    rw [e_Rd_next_249, h10, h.1, if_pos (by omega), x_at D h, Option.bind_some]
    simp only []
    rw [x_isD, Option.bind_some]
    simp only []
    by_cases c : isDg (ch tp i) = true
    · have f1 : Fr (fun a k => a = 3 ∧ k = 10) s (wI s 3 10 ((i + 1 : Nat) : Int)) := Fr.rf.w ⟨rfl, rfl⟩
      rw [if_pos c] at e1
      obtain ⟨s1, e2, f2, g2⟩ := x_next249 D hq hb f (i + 1) (wI s 3 10 ((i + 1 : Nat) : Int)) (by omega) (by omega) (hd.trans e1) (h.fr f1 (fun a k q => by omega)) ((rI_other _ _ _ _ (by omega)).trans h9) (rI_same _ _ _ _)
      rw [if_pos c, if_neg (show ¬ ((1 : Int) = 0) by decide), h10, w32_s (by omega), e1]
      exact ⟨s1, e2, f1.tr f2, g2⟩
    · rw [if_neg c] at e1
      rw [if_neg c, if_pos rfl, x_findNumber D h hb hq h9 (by rw [hd, e1]; exact h10), Option.bind_some, e1]
      exact ⟨s, rfl, Fr.rf, h10⟩
theorem x_next155 (D : Nat) {s : Mem} {q : Nat} (hq : q < tp.length) (hb : Bys tp) (hc : ¬ (isLt (ch tp q) = false ∧ isDg (ch tp q) = false)) (h : XTp s tp) (h9 : rI s 3 9 = (q : Int)) (h10 : rI s 3 10 = (q : Int)) (h11 : rI s 3 11 = -1) (h12 : rI s 3 12 = -1) : ∃ s1, L_Rd_next_155 (D + 2) (ch tp q) (pv tp q) s = some (0, s1) ∧ Fr PRd s s1 ∧ XRd s1 tp q := by
  rw [e_Rd_next_155, x_isL, Option.bind_some]
  simp only []
  have k4 : gl tp q = true → kd tp q = 4 := fun g => by
    unfold kd
    rw [if_neg (by omega), if_neg hc, if_pos g]
  have r4 : gl tp q = true → XRd (wI s 3 8 4) tp q := fun g => by
    have k := k4 g
    refine ⟨(rI_other _ _ _ _ (by omega)).trans h9, ?_, ?_, ?_, ?_, fun c => by rw [k] at c; cases c⟩
    · rw [rI_other _ _ _ _ (by omega), h10]; unfold en; rw [k]; rfl
    · rw [rI_same, k]; rfl
    · rw [rI_other _ _ _ _ (by omega), h11]; unfold wd; rw [k]; rfl
    · rw [rI_other _ _ _ _ (by omega), h12]; unfold sg; rw [k]; rfl
  have f4 : Fr PRd s (wI s 3 8 4) := Fr.rf.w (by unfold PRd; omega)
  by_cases c1 : isLt (pv tp q) = true
  · rw [if_pos c1, if_neg (show ¬ ((1 : Int) = 0) by decide)]
    exact ⟨_, rfl, f4, r4 (by unfold gl; rw [c1]; rfl)⟩
  · rw [if_neg c1, if_pos rfl, x_isD, Option.bind_some]
    simp only []
    by_cases c2 : isDg (pv tp q) = true
    · rw [if_pos c2, if_neg (show ¬ ((1 : Int) = 0) by decide)]
      exact ⟨_, rfl, f4, r4 (by unfold gl; rw [c2, Bool.or_true])⟩
    · have g : gl tp q = false := by unfold gl; rw [Bool.eq_false_iff.mpr c1, Bool.eq_false_iff.mpr c2]; rfl
      rw [if_neg c2, if_pos rfl, x_isL, Option.bind_some]
      simp only []
      by_cases c3 : isLt (ch tp q) = true
      · have k : kd tp q = 1 := by
          unfold kd
          rw [if_neg (by omega), if_neg hc, g, if_neg (by decide), if_pos c3]
        have f1 : Fr PRd s (wI s 3 8 1) := Fr.rf.w (by unfold PRd; omega)
        obtain ⟨s1, e2, f2, g2⟩ := x_next189 D (q := q) (by omega) (tp.length - q) q (wI s 3 8 1) (by omega) (Nat.le_refl _) (h.fr f1 (fun a k q => by unfold PRd at q; omega)) ((rI_other _ _ _ _ (by omega)).trans h9) ((rI_other _ _ _ _ (by omega)).trans h10)
        rw [if_pos c3, if_neg (show ¬ ((1 : Int) = 0) by decide), e2]
        refine ⟨_, rfl, (f1.tr (f2.mo (fun a k q => by unfold PRd; omega))).w (by unfold PRd; omega), ?_, ?_, ?_, ?_, ?_, fun c => by rw [k] at c; cases c⟩
        · rw [rI_other _ _ _ _ (by omega), f2.i (by omega), rI_other _ _ _ _ (by omega)]; exact h9
        · rw [rI_other _ _ _ _ (by omega), g2]; unfold en; rw [k]; rfl
        · rw [rI_other _ _ _ _ (by omega), f2.i (by omega), rI_same, k]; rfl
        · rw [rI_same]; unfold wd; rw [k]; rfl
        · rw [rI_other _ _ _ _ (by omega), f2.i (by omega), rI_other _ _ _ _ (by omega), h12]; unfold sg; rw [k]; rfl
      · have k : kd tp q = 2 := by
          unfold kd
          rw [if_neg (by omega), if_neg hc, g, if_neg (by decide), if_neg c3]
        have f1 : Fr PRd s (wI s 3 8 2) := Fr.rf.w (by unfold PRd; omega)
        obtain ⟨s1, e2, f2, g2⟩ := x_next249 (D + 1) (q := q) (by omega) hb (tp.length - q) q (wI s 3 8 2) (by omega) (Nat.le_refl _) rfl (h.fr f1 (fun a k q => by unfold PRd at q; omega)) ((rI_other _ _ _ _ (by omega)).trans h9) ((rI_other _ _ _ _ (by omega)).trans h10)
        rw [if_neg c3, if_pos rfl, e2]
        refine ⟨_, rfl, (f1.tr (f2.mo (fun a k q => by unfold PRd; omega))).w (by unfold PRd; omega), ?_, ?_, ?_, ?_, ?_, fun _ => rI_same _ _ _ _⟩
        · rw [rI_other _ _ _ _ (by omega), f2.i (by omega), rI_other _ _ _ _ (by omega)]; exact h9
        · rw [rI_other _ _ _ _ (by omega), g2]; unfold en; rw [k]; rfl
        · rw [rI_other _ _ _ _ (by omega), f2.i (by omega), rI_same, k]; rfl
        · rw [rI_other _ _ _ _ (by omega), f2.i (by omega), rI_other _ _ _ _ (by omega), h11]; unfold wd; rw [k]; rfl
        · rw [rI_other _ _ _ _ (by omega), f2.i (by omega), rI_other _ _ _ _ (by omega), h12]; unfold sg; rw [k]; rfl
theorem x_nxt (D : Nat) {s : Mem} {p : Nat} (h : XTp s tp) (hb : Bys tp) (hp : p ≤ tp.length) (h10 : rI s 3 10 = (p : Int)) : ∃ s1, f_Rd_next (D + 3) s = some (0, s1) ∧ Fr PRd s s1 ∧ XRd s1 tp (sk tp p) := by
  have hl := h.2.1
  have f1 : Fr PRd s (wI s 3 9 (p : Int)) := Fr.rf.w (by unfold PRd; omega)
  obtain ⟨s1, e1, f2, g1⟩ := x_next8 (D + 1) (tp.length - p) p (wI s 3 9 (p : Int)) (by omega) (h.fr f1 (fun a k q => by unfold PRd at q; omega)) (rI_same _ _ _ _)
  have hq := (ru_p (p := isBk) hp).2.1
  have f12 : Fr PRd s s1 := f1.tr (f2.mo (fun a k q => by unfold PRd; omega))
  have f3 : Fr PRd s1 (wI (wI (wI s1 3 10 (sk tp p : Int)) 3 11 (-1)) 3 12 (-1)) := ((Fr.rf.w (by unfold PRd; omega)).w (by unfold PRd; omega)).w (by unfold PRd; omega)
  have t3 : XTp (wI (wI (wI s1 3 10 (sk tp p : Int)) 3 11 (-1)) 3 12 (-1)) tp := h.fr (f12.tr f3) (fun a k q => by unfold PRd at q; omega)
  have g9 : rI (wI (wI (wI s1 3 10 (sk tp p : Int)) 3 11 (-1)) 3 12 (-1)) 3 9 = (sk tp p : Int) := by rw [rI_other _ _ _ _ (by omega), rI_other _ _ _ _ (by omega), rI_other _ _ _ _ (by omega)]; exact g1
  have g10 : rI (wI (wI (wI s1 3 10 (sk tp p : Int)) 3 11 (-1)) 3 12 (-1)) 3 10 = (sk tp p : Int) := by rw [rI_other _ _ _ _ (by omega), rI_other _ _ _ _ (by omega), rI_same]
  have g11 : rI (wI (wI (wI s1 3 10 (sk tp p : Int)) 3 11 (-1)) 3 12 (-1)) 3 11 = -1 := by rw [rI_other _ _ _ _ (by omega), rI_same]
  have g12 : rI (wI (wI (wI s1 3 10 (sk tp p : Int)) 3 11 (-1)) 3 12 (-1)) 3 12 = -1 := rI_same _ _ _ _
  have gpv : f_Tape_byteAt (D + 2) (w32 ((sk tp p : Int) - 1)) (wI (wI (wI s1 3 10 (sk tp p : Int)) 3 11 (-1)) 3 12 (-1)) = some (pv tp (sk tp p), wI (wI (wI s1 3 10 (sk tp p : Int)) 3 11 (-1)) 3 12 (-1)) := by
    have hq2 : sk tp p ≤ tp.length := hq
    unfold pv
    by_cases c : sk tp p = 0
    · rw [if_pos c, c, e_Tape_byteAt, if_pos (by decide)]
    · rw [if_neg c, show w32 ((sk tp p : Int) - 1) = ((sk tp p - 1 : Nat) : Int) by rw [w32_i (by omega) (by omega)]; omega]
      exact x_at (D + 1) t3 _
  rw [e_Rd_next, h10, e1, e_Rd_next_52, g1, x_at (D + 1) t3, Option.bind_some]
  simp only []
  rw [g9, gpv, Option.bind_some]
  simp only []
  rw [g9, t3.1]
  generalize wI (wI (wI s1 3 10 (sk tp p : Int)) 3 11 (-1)) 3 12 (-1) = s2 at f3 t3 g9 g10 g11 g12 ⊢
  have ff := f12.tr f3
  generalize sk tp p = q at hq g9 g10 ⊢
  by_cases c : q < tp.length
  · rw [if_pos (by omega), x_isL, Option.bind_some]
    simp only []
    by_cases c1 : isLt (ch tp q) = true
    · obtain ⟨s3, e3, f4, g4⟩ := x_next155 D c hb (fun q => by rw [c1] at q; cases q.1) t3 g9 g10 g11 g12
      rw [if_pos c1, if_neg (show ¬ ((1 : Int) = 0) by decide), e3]
      exact ⟨s3, rfl, ff.tr f4, g4⟩
    · rw [if_neg c1, if_pos rfl, x_isD, Option.bind_some]
      simp only []
      by_cases c2 : isDg (ch tp q) = true
      · obtain ⟨s3, e3, f4, g4⟩ := x_next155 D c hb (fun q => by rw [c2] at q; cases q.2) t3 g9 g10 g11 g12
        rw [if_pos c2, if_neg (show ¬ ((1 : Int) = 0) by decide), e3]
        exact ⟨s3, rfl, ff.tr f4, g4⟩
      · have k : kd tp q = 3 := by
          unfold kd
          rw [if_neg (by omega), if_pos ⟨Bool.eq_false_iff.mpr c1, Bool.eq_false_iff.mpr c2⟩]
        rw [if_neg c2, if_pos rfl, g9, w32_s (by omega)]
        refine ⟨_, rfl, ((ff.w (by unfold PRd; omega)).w (by unfold PRd; omega)).w (by unfold PRd; omega), ?_, ?_, ?_, ?_, ?_, fun c => by rw [k] at c; cases c⟩
        · rw [rI_other _ _ _ _ (by omega), rI_other _ _ _ _ (by omega), rI_other _ _ _ _ (by omega)]; exact g9
        · rw [rI_same]; unfold en; rw [k]; rfl
        · rw [rI_other _ _ _ _ (by omega), rI_other _ _ _ _ (by omega), rI_same, k]; rfl
        · rw [rI_other _ _ _ _ (by omega), rI_other _ _ _ _ (by omega), rI_other _ _ _ _ (by omega), g11]; unfold wd; rw [k]; rfl
        · rw [rI_other _ _ _ _ (by omega), rI_same]; unfold sg; rw [k]; rfl
  · have k : kd tp q = 0 := kd_0.mpr (by omega)
    rw [if_neg (by omega)]
    refine ⟨_, rfl, ff.w (by unfold PRd; omega), ?_, ?_, ?_, ?_, ?_, fun c => by rw [k] at c; cases c⟩
    · rw [rI_other _ _ _ _ (by omega)]; exact g9
    · rw [rI_other _ _ _ _ (by omega), g10]; unfold en; rw [k]; rfl
    · rw [rI_same, k]; rfl
    · rw [rI_other _ _ _ _ (by omega), g11]; unfold wd; rw [k]; rfl
    · rw [rI_other _ _ _ _ (by omega), g12]; unfold sg; rw [k]; rfl
/-- on to the next token -/
theorem x_nx (D : Nat) {s : Mem} {q : Nat} (h : XTp s tp) (hb : Bys tp) (hq : q ≤ tp.length) (hr : XRd s tp q) : ∃ s1, f_Rd_next (D + 3) s = some (0, s1) ∧ Fr PRd s s1 ∧ XRd s1 tp (nx tp q)   := x_nxt D h hb (en_p hq).2 hr.2.1
end TEXT
