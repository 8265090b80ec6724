/-! what a table is, as text -/
abbrev PR (α : Type) : Type := (Int × Nat) ⊕ α
def bn {α β : Type} (r : PR α) (f : α → PR β) : PR β := match r with
  | .inl e => .inl e
  | .inr x => f x
theorem bn_i {α β : Type} {r : PR α} {f : α → PR β} {y : β} (h : bn r f = .inr y) : ∃ x, r = .inr x ∧ f x = .inr y := by
  match r, h with
  | .inr x, h => exact ⟨x, rfl, h⟩
abbrev Gst : Type := List Int × Int × Int × Int
/-- how many statements, how many seats, the guests (name, seat, wet, hot), the hoops, the codes, the toast -/
abbrev Dr : Type := Nat × Nat × List Gst × List Int × (Nat → Option (List Int)) × Int
def dN (d : Dr) : Nat := d.2.1
def dG (d : Dr) : List Gst := d.2.2.1
def dH (d : Dr) : List Int := d.2.2.2.1
def dC (d : Dr) : Nat → Option (List Int) := d.2.2.2.2.1
def dT (d : Dr) : Int := d.2.2.2.2.2
def dI (d : Dr) : Dr := (d.1 + 1, d.2)
def gg (d : Dr) (i : Nat) : Gst := (dG d).getD i ([], 0, 0, 0)
def numP (tp : List Int) (lo hi : Int) (q : Nat) : PR (Nat × Int) := if kd tp q = 2 then (if 4 < de tp q - q then .inl (1, q + 4) else if lo ≤ nu tp q ∧ nu tp q ≤ hi then .inr (nx tp q, nu tp q) else .inl (2, q)) else .inl (1, q)
def wrdP (tp : List Int) (i : Int) (q : Nat) : PR Nat := if wd tp q = i then .inr (nx tp q) else .inl (1, q)
def sgnP (tp : List Int) (v : Int) (q : Nat) : PR Nat := if sg tp q = v then .inr (nx tp q) else .inl (1, q)
def namP (tp : List Int) (q : Nat) : PR Nat := if isNm tp q then (if 6 < le tp q - q then .inl (1, q + 6) else .inr (nx tp q)) else .inl (1, q)
/-- the letters of the name at q -/
def nmX (tp : List Int) (q : Nat) : List Int := (slc tp q (le tp q)).map (fun c => c - 96)
def gstP (tp : List Int) (d : Dr) (q : Nat) : PR (Nat × Dr) :=
  if (dG d).length = 7 then .inl (5, q) else
  bn (namP tp (nx tp q)) fun q1 => if (dG d).any (fun g => g.1 == nmX tp (nx tp q)) then .inl (3, nx tp q) else
  bn (wrdP tp 2 q1) fun q2 => bn (numP tp 0 ((dN d : Int) - 1) q2) fun x3 => if (dG d).any (fun g => g.2.1 == x3.2) then .inl (2, q2) else
  bn (wrdP tp 3 x3.1) fun q4 => bn (numP tp 0 9 q4) fun x5 => bn (wrdP tp 4 x5.1) fun q6 => bn (numP tp 0 9 q6) fun x7 =>
  .inr (x7.1, (d.1, d.2.1, dG d ++ [(nmX tp (nx tp q), x3.2, x5.2, x7.2)], d.2.2.2))
def hopP (tp : List Int) (d : Dr) (q : Nat) : PR (Nat × Dr) := bn (numP tp 0 ((dN d : Int) - 1) (nx tp q)) fun x => if (dH d).any (fun h => h == x.2) then .inl (2, nx tp q) else .inr (x.1, (d.1, d.2.1, d.2.2.1, dH d ++ [x.2], d.2.2.2.2))
def toaP (tp : List Int) (d : Dr) (q : Nat) : PR (Nat × Dr) := bn (numP tp 0 100 (nx tp q)) fun x => .inr (x.1, (d.1, d.2.1, d.2.2.1, d.2.2.2.1, d.2.2.2.2.1, x.2))
def upC (c : Nat → Option (List Int)) (k : Nat) (cs : List Int) : Nat → Option (List Int) := fun j => if j = k then some cs else c j
def cdP (tp : List Int) (k q : Nat) : Res := if k = 1 then tesL tp k 6 q else sumL tp k 6 q
def rulP (tp : List Int) (k : Nat) (d : Dr) (q : Nat) : PR (Nat × Dr) := match dC d k with
  | some _ => .inl (5, q)
  | none => bn (cdP tp k (nx tp q)) fun x => .inr (x.1, (d.1, d.2.1, d.2.2.1, d.2.2.2.1, upC (dC d) k x.2, d.2.2.2.2.2))
def stbP (tp : List Int) (d : Dr) (q : Nat) : PR (Nat × Dr) := if wd tp q = 1 then gstP tp d q else if wd tp q = 5 then hopP tp d q else if wd tp q = 6 then rulP tp 0 d q else if wd tp q = 7 then rulP tp 1 d q else if wd tp q = 8 then rulP tp 2 d q else if wd tp q = 9 then toaP tp d q else .inl (1, q)
def staP (tp : List Int) (d : Dr) (q : Nat) : PR (Nat × Dr) := bn (stbP tp d q) fun x => bn (sgnP tp 59 x.1) fun q1 => .inr (q1, dI x.2)
def tabW (tp : List Int) : Nat → Nat → Dr → PR Dr
  | 0, _, d => .inr d
  | f + 1, q, d => if kd tp q = 0 then .inr d else if d.1 = 60 then .inl (5, q) else bn (staP tp d q) fun x => tabW tp f x.1 x.2
def fstP (tp : List Int) (q : Nat) : PR (Nat × Dr) := bn (wrdP tp 0 q) fun q1 => bn (numP tp 3 9 q1) fun x => bn (sgnP tp 59 x.1) fun q2 => .inr (q2, (1, x.2.toNat, [], [], (fun _ => none), 0))
def tabP (tp : List Int) : PR Dr := bn (fstP tp (sk tp 0)) fun x => tabW tp tp.length x.1 x.2
section TABS
variable {tp : List Int}
theorem numP_i {lo hi : Int} {q : Nat} {x : Nat × Int} (h : numP tp lo hi q = .inr x) : (kd tp q = 2 ∧ de tp q - q ≤ 4) ∧ (lo ≤ nu tp q ∧ nu tp q ≤ hi) ∧ x = (nx tp q, nu tp q) := by
  unfold numP at h
  split at h
  · next k =>
    split at h
    · cases h
    · next c =>
      split at h
      · next r => cases h; exact ⟨⟨k, by omega⟩, r, rfl⟩
      · cases h
  · cases h
theorem wrdP_i {i : Int} {q q1 : Nat} (h : wrdP tp i q = .inr q1) : wd tp q = i ∧ q1 = nx tp q := by
  unfold wrdP at h
  split at h
  · next e => cases h; exact ⟨e, rfl⟩
  · cases h
theorem sgnP_i {i : Int} {q q1 : Nat} (h : sgnP tp i q = .inr q1) : sg tp q = i ∧ q1 = nx tp q := by
  unfold sgnP at h
  split at h
  · next e => cases h; exact ⟨e, rfl⟩
  · cases h
theorem namP_i {q q1 : Nat} (h : namP tp q = .inr q1) : isNm tp q ∧ le tp q - q ≤ 6 ∧ q1 = nx tp q := by
  unfold namP at h
  split at h
  · next e =>
    split at h
    · cases h
    · cases h; exact ⟨e, by omega, rfl⟩
  · cases h
theorem num_lt {lo hi : Int} {q : Nat} {x : Nat × Int} (h : numP tp lo hi q = .inr x) : q < x.1 ∧ St tp x.1 := by
  obtain ⟨⟨k, -⟩, -, rfl⟩ := numP_i h
  have := kd_lt (tp := tp) (q := q) (by omega)
  exact ⟨nx_lt ⟨by omega, by omega⟩, (nx_p (by omega)).2⟩
theorem wrd_lt {i : Int} {q q1 : Nat} (hi : i ≠ -1) (h : wrdP tp i q = .inr q1) : q < q1 ∧ St tp q1 := by
  obtain ⟨e, rfl⟩ := wrdP_i h
  exact ⟨(nx_w e hi).1, (nx_w e hi).2.1⟩
theorem sgn_lt {i : Int} {q q1 : Nat} (hi : i ≠ -1) (h : sgnP tp i q = .inr q1) : q < q1 ∧ St tp q1 := by
  obtain ⟨e, rfl⟩ := sgnP_i h
  exact ⟨(nx_s e hi).1, (nx_s e hi).2.1⟩
theorem nam_lt {q q1 : Nat} (h : namP tp q = .inr q1) : q < q1 ∧ St tp q1 := by
  obtain ⟨e, -, rfl⟩ := namP_i h
  have := kd_lt (tp := tp) (q := q) (by have := e.1; omega)
  exact ⟨nx_lt ⟨by have := e.1; omega, by have := e.1; omega⟩, (nx_p (by omega)).2⟩
/-- what a draft may be -/
def DOk (d : Dr) : Prop := (3 ≤ dN d ∧ dN d ≤ 9) ∧ ((dG d).length ≤ 7 ∧ (∀ i, i < (dG d).length → (1 ≤ (gg d i).1.length ∧ (gg d i).1.length ≤ 6 ∧ ∀ x ∈ (gg d i).1, 1 ≤ x ∧ x ≤ 26) ∧ (0 ≤ (gg d i).2.1 ∧ (gg d i).2.1 < (dN d : Int)) ∧ (0 ≤ (gg d i).2.2.1 ∧ (gg d i).2.2.1 ≤ 9) ∧ 0 ≤ (gg d i).2.2.2 ∧ (gg d i).2.2.2 ≤ 9) ∧ ∀ i j, i < (dG d).length → j < (dG d).length → (gg d i).2.1 = (gg d j).2.1 → i = j) ∧ (∀ x ∈ dH d, 0 ≤ x ∧ x < (dN d : Int)) ∧ (∀ k, k < 3 → ∀ cs, dC d k = some cs → Cok k cs (k == 1) ∧ cs.length ≤ 1600) ∧ 0 ≤ dT d ∧ dT d ≤ 100
theorem any_f {α : Type} {l : List α} {p : α → Bool} (h : ¬ l.any p = true) {x : α} (hx : x ∈ l) : p x = false := by
  cases e : p x
  · rfl
  · exact absurd (List.any_eq_true.mpr ⟨x, hx, e⟩) h
theorem gg_app {d : Dr} {g : Gst} {l : List Gst} {i : Nat} (hl : dG d = l ++ [g]) : gg d i = if i < l.length then l.getD i ([], 0, 0, 0) else if i = l.length then g else ([], 0, 0, 0) := by
  unfold gg
  rw [hl, List.getD_eq_getElem?_getD]
  by_cases c : i < l.length
  · rw [if_pos c, List.getElem?_append_left c, ← List.getD_eq_getElem?_getD]
  · rw [if_neg c, List.getElem?_append_right (by omega)]
    by_cases e : i = l.length
    · rw [if_pos e, e, Nat.sub_self]; rfl
    · rw [if_neg e, List.getElem?_eq_none (by simp only [List.length_singleton]; omega)]; rfl
theorem gg_mem {d : Dr} {i : Nat} (h : i < (dG d).length) : gg d i ∈ dG d := by
  unfold gg
  rw [List.getD_eq_getElem?_getD, List.getElem?_eq_getElem h]
  exact List.getElem_mem h
theorem nmX_p {q : Nat} (h : isNm tp q) (h6 : le tp q - q ≤ 6) : 1 ≤ (nmX tp q).length ∧ (nmX tp q).length ≤ 6 ∧ ∀ x ∈ nmX tp q, 1 ≤ x ∧ x ≤ 26 := by
  have hq := kd_lt (tp := tp) (q := q) (by have := h.1; omega)
  have hr := ru_p (p := isLt) (tp := tp) (i := q) (by omega)
  have hle : le tp q = ru isLt tp q := rfl
  have e : en tp q = le tp q := by unfold en; rw [h.1]; rfl
  have hlt := en_lt (tp := tp) (q := q) (by have := h.1; omega)
  have hl : (nmX tp q).length = le tp q - q := by
    unfold nmX
    rw [List.length_map, slc_l (by omega) (by omega)]
  refine ⟨by omega, by omega, fun x hx => ?_⟩
  unfold nmX slc at hx
  obtain ⟨c, hc, rfl⟩ := List.mem_map.mp hx
  obtain ⟨i, hi, e2⟩ := List.mem_iff_getElem.mp hc
  rw [List.length_take, List.length_drop] at hi
  rw [List.getElem_take, List.getElem_drop] at e2
  have := hr.2.2.2 (q + i) (by omega) (by omega)
  rw [ch_i (by omega)] at this
  unfold tg at this
  rw [List.getD_eq_getElem?_getD, List.getElem?_eq_getElem (by omega)] at this
  have e3 : tp[q + i]'(by omega) = c := e2
  rw [e3] at this
  unfold isLt at this
  simp only [Option.getD_some, Bool.and_eq_true, decide_eq_true_iff] at this
  omega
theorem cdP_g (k : Nat) : Good tp (cdP tp k) := fun q q' c hq h => by
  unfold cdP at h
  split at h
  · exact tesL_g k 6 _ _ _ hq h
  · exact sumL_g k 6 _ _ _ hq h
theorem cdP_ok {k q q' : Nat} {c : List Int} (h : cdP tp k q = .inr (q', c)) : Cok k c (k == 1) := by
  unfold cdP at h
  split at h
  · next e => rw [e] at h ⊢; exact tesL_ok (by omega) h
  · next e =>
    rw [show (k == 1) = false from beq_false_of_ne e]
    exact sumL_ok (by omega) h
theorem stb_ok (hl6 : tp.length ≤ 1600) {d : Dr} {q : Nat} {x : Nat × Dr} (h : stbP tp d q = .inr x) (hd : DOk d) : (q < x.1 ∧ St tp x.1) ∧ DOk x.2 ∧ x.2.1 = d.1 := by
  obtain ⟨hN, ⟨hg7, hg, hgd⟩, hh, hc, ht⟩ := hd
  have rul : ∀ k w, k < 3 → w ≠ -1 → wd tp q = w → rulP tp k d q = .inr x → (q < x.1 ∧ St tp x.1) ∧ DOk x.2 ∧ x.2.1 = d.1 := fun k w hk hw hwd h => by
    unfold rulP at h
    split at h
    · cases h
    · next e =>
      obtain ⟨⟨q1, cs⟩, h1, h2⟩ := bn_i h
      cases h2
      obtain ⟨n1, n2, n3⟩ := nx_w hwd hw
      obtain ⟨g1, g2, g3⟩ := cdP_g k _ _ _ n2.1 h1
      have := g3.1
      refine ⟨⟨by show q < q1; omega, g3⟩, ⟨hN, ⟨hg7, hg, hgd⟩, hh, fun j hj cs' hcs => ?_, ht⟩, rfl⟩
      have hcs' : upC (dC d) k cs j = some cs' := hcs
      unfold upC at hcs'
      split at hcs'
      · next e2 => cases hcs'; rw [e2]; exact ⟨cdP_ok h1, by omega⟩
      · exact hc j hj cs' hcs'
  unfold stbP at h
  by_cases c1 : wd tp q = 1
  · rw [if_pos c1] at h
    unfold gstP at h
    split at h
    · cases h
    · next h7 =>
      obtain ⟨n1, n2, n3⟩ := nx_w c1 (by decide)
      obtain ⟨q1, r1, h⟩ := bn_i h
      split at h
      · cases h
      · next a1 =>
        obtain ⟨q2, r2, h⟩ := bn_i h
        obtain ⟨x3, r3, h⟩ := bn_i h
        split at h
        · cases h
        · next a2 =>
          obtain ⟨q4, r4, h⟩ := bn_i h
          obtain ⟨x5, r5, h⟩ := bn_i h
          obtain ⟨q6, r6, h⟩ := bn_i h
          obtain ⟨x7, r7, h⟩ := bn_i h
          cases h
          have l1 := nam_lt r1
          have l2 := wrd_lt (by decide) r2
          have l3 := num_lt r3
          have l4 := wrd_lt (by decide) r4
          have l5 := num_lt r5
          have l6 := wrd_lt (by decide) r6
          have l7 := num_lt r7
          obtain ⟨m1, m2, -⟩ := namP_i r1
          obtain ⟨-, b3, e3⟩ := numP_i r3
          obtain ⟨-, b5, e5⟩ := numP_i r5
          obtain ⟨-, b7, e7⟩ := numP_i r7
          have v3 : x3.2 = nu tp q2 := by rw [e3]
          have v5 : x5.2 = nu tp q4 := by rw [e5]
          have v7 : x7.2 = nu tp q6 := by rw [e7]
          have hnm := nmX_p m1 m2
          refine ⟨⟨by show q < x7.1; omega, l7.2⟩, ⟨hN, ⟨?_, fun i hi => ?_, fun i j hi hj e => ?_⟩, hh, hc, ht⟩, rfl⟩
          · show (dG d ++ [_]).length ≤ 7
            rw [List.length_append, List.length_singleton]; omega
          · have hi2 : i < (dG d ++ [(nmX tp (nx tp q), x3.2, x5.2, x7.2)]).length := hi
            rw [List.length_append, List.length_singleton] at hi2
            rw [gg_app (d := (d.1, d.2.1, dG d ++ [(nmX tp (nx tp q), x3.2, x5.2, x7.2)], d.2.2.2)) rfl]
            by_cases c : i < (dG d).length
            · rw [if_pos c]; exact hg i c
            · rw [if_neg c, if_pos (by omega)]
              show _ ∧ (0 ≤ x3.2 ∧ x3.2 < (dN d : Int)) ∧ (0 ≤ x5.2 ∧ x5.2 ≤ 9) ∧ 0 ≤ x7.2 ∧ x7.2 ≤ 9
              exact ⟨hnm, by omega, by omega, by omega⟩
          · have hi2 : i < (dG d ++ [(nmX tp (nx tp q), x3.2, x5.2, x7.2)]).length := hi
            have hj2 : j < (dG d ++ [(nmX tp (nx tp q), x3.2, x5.2, x7.2)]).length := hj
            rw [List.length_append, List.length_singleton] at hi2 hj2
            rw [gg_app (d := (d.1, d.2.1, dG d ++ [(nmX tp (nx tp q), x3.2, x5.2, x7.2)], d.2.2.2)) rfl, gg_app (d := (d.1, d.2.1, dG d ++ [(nmX tp (nx tp q), x3.2, x5.2, x7.2)], d.2.2.2)) rfl] at e
            have hne : ∀ k, k < (dG d).length → (gg d k).2.1 ≠ x3.2 := fun k hk e4 => by
              have := any_f a2 (gg_mem hk)
              rw [beq_eq_false_iff_ne] at this
              exact this e4
            by_cases c : i < (dG d).length
            · by_cases c2 : j < (dG d).length
              · rw [if_pos c, if_pos c2] at e
                exact hgd i j c c2 e
              · rw [if_pos c, if_neg c2, if_pos (by omega)] at e
                exact absurd e (hne i c)
            · by_cases c2 : j < (dG d).length
              · rw [if_neg c, if_pos (show i = (dG d).length by omega), if_pos c2] at e
                exact absurd e.symm (hne j c2)
              · omega
  · rw [if_neg c1] at h
    by_cases c5 : wd tp q = 5
    · rw [if_pos c5] at h
      unfold hopP at h
      obtain ⟨n1, n2, n3⟩ := nx_w c5 (by decide)
      obtain ⟨x3, r3, h⟩ := bn_i h
      split at h
      · cases h
      · cases h
        have l3 := num_lt r3
        obtain ⟨-, b3, e3⟩ := numP_i r3
        have v3 : x3.2 = nu tp (nx tp q) := by rw [e3]
        refine ⟨⟨by show q < x3.1; omega, l3.2⟩, ⟨hN, ⟨hg7, hg, hgd⟩, fun y hy => ?_, hc, ht⟩, rfl⟩
        rcases List.mem_append.mp hy with hy | hy
        · exact hh y hy
        · rw [List.mem_singleton.mp hy]
          show 0 ≤ x3.2 ∧ x3.2 < (dN d : Int)
          omega
    · rw [if_neg c5] at h
      by_cases c6 : wd tp q = 6
      · rw [if_pos c6] at h; exact rul 0 6 (by decide) (by decide) c6 h
      · rw [if_neg c6] at h
        by_cases c7 : wd tp q = 7
        · rw [if_pos c7] at h; exact rul 1 7 (by decide) (by decide) c7 h
        · rw [if_neg c7] at h
          by_cases c8 : wd tp q = 8
          · rw [if_pos c8] at h; exact rul 2 8 (by decide) (by decide) c8 h
          · rw [if_neg c8] at h
            by_cases c9 : wd tp q = 9
            · rw [if_pos c9] at h
              unfold toaP at h
              obtain ⟨n1, n2, n3⟩ := nx_w c9 (by decide)
              obtain ⟨x3, r3, h⟩ := bn_i h
              cases h
              have l3 := num_lt r3
              obtain ⟨-, b3, e3⟩ := numP_i r3
              have v3 : x3.2 = nu tp (nx tp q) := by rw [e3]
              exact ⟨⟨by show q < x3.1; omega, l3.2⟩, ⟨hN, ⟨hg7, hg, hgd⟩, hh, hc, by show 0 ≤ x3.2 ∧ x3.2 ≤ 100; omega⟩, rfl⟩
            · rw [if_neg c9] at h; cases h
theorem sta_ok (hl6 : tp.length ≤ 1600) {d : Dr} {q : Nat} {x : Nat × Dr} (h : staP tp d q = .inr x) (hd : DOk d) : (q < x.1 ∧ St tp x.1) ∧ DOk x.2 ∧ x.2.1 = d.1 + 1 := by
  obtain ⟨y, r1, h⟩ := bn_i h
  obtain ⟨q1, r2, h⟩ := bn_i h
  cases h
  obtain ⟨g1, g2, g3⟩ := stb_ok hl6 r1 hd
  have l2 := sgn_lt (by decide) r2
  exact ⟨⟨by show q < q1; omega, l2.2⟩, g2, by show y.2.1 + 1 = d.1 + 1; omega⟩
theorem fst_ok {q : Nat} {x : Nat × Dr} (h : fstP tp q = .inr x) : (q < x.1 ∧ St tp x.1) ∧ DOk x.2 ∧ x.2.1 = 1 := by
  obtain ⟨q1, r1, h⟩ := bn_i h
  obtain ⟨y, r2, h⟩ := bn_i h
  obtain ⟨q2, r3, h⟩ := bn_i h
  cases h
  have l1 := wrd_lt (by decide) r1
  have l2 := num_lt r2
  have l3 := sgn_lt (by decide) r3
  obtain ⟨-, b, e⟩ := numP_i r2
  have v : y.2 = nu tp q1 := by rw [e]
  refine ⟨⟨by show q < q2; omega, l3.2⟩, ⟨?_, ⟨Nat.zero_le _, fun i hi => absurd hi (Nat.not_lt_zero _), fun i j hi => absurd hi (Nat.not_lt_zero _)⟩, fun y hy => (by cases hy), fun k hk cs hcs => (by cases hcs), (show (0 : Int) ≤ 0 by decide), (show (0 : Int) ≤ 100 by decide)⟩, rfl⟩
  show 3 ≤ y.2.toNat ∧ y.2.toNat ≤ 9
  omega
theorem tabW_ok (hl6 : tp.length ≤ 1600) : ∀ (f q : Nat) (d d' : Dr), tabW tp f q d = .inr d' → DOk d → DOk d'
  | 0, q, d, d', h, hd => by cases h; exact hd
  | f + 1, q, d, d', h, hd => by
    unfold tabW at h
    split at h
    · cases h; exact hd
    · split at h
      · cases h
      · obtain ⟨x, r1, h⟩ := bn_i h
        exact tabW_ok hl6 f x.1 x.2 d' h (sta_ok hl6 r1 hd).2.1
theorem tabP_ok (hl6 : tp.length ≤ 1600) {d : Dr} (h : tabP tp = .inr d) : DOk d := by
  obtain ⟨x, r1, h⟩ := bn_i h
  exact tabW_ok hl6 _ _ _ _ h (fst_ok r1).2.1
end TABS
