/-! the class reads guests, hoops, rules: a statement -/
def XCd (s : Mem) (c k : Nat) (cs : Option (List Int)) : Prop := match cs with
  | none => rI s c 2 = 0 ∧ XC s c (dfl k)
  | some cs => rI s c 2 = 1 ∧ XC s c cs
/-- the draft of the class at o -/
def XD (s : Mem) (o : Nat) (d : Dr) : Prop := (o = 6 ∨ o = 17) ∧ (rI s o 0 = (d.1 : Int) ∧ rI s o 1 = (dN d : Int) ∧ rI s o 2 = ((dG d).length : Int) ∧ rI s o 5 = dT d) ∧ XBt (rI s o 3) (dH d) ∧ XBt (rI s o 4) ((dG d).map (fun g => g.2.1)) ∧ (∀ i, i < (dG d).length → XNm s o i (gg d i).1 ∧ rI s (o + 2) i = (gg d i).2.1 ∧ rI s (o + 3) i = (gg d i).2.2.1 ∧ rI s (o + 4) i = (gg d i).2.2.2) ∧ XCd s (o + 5) 0 (dC d 0) ∧ XCd s (o + 7) 1 (dC d 1) ∧ XCd s (o + 9) 2 (dC d 2)
def XOS (tp : List Int) (X : Rs) (res : PR (Nat × Dr)) (s : Mem) (o : Nat) : Prop := match res with
  | .inl e => ∃ s1, X = some (0, s1) ∧ Fr (PSo o) s s1 ∧ XF s1 e
  | .inr x => ∃ s1, X = some (1, s1) ∧ Fr (PSo o) s s1 ∧ XS s1 tp x.1 ∧ XD s1 o x.2
section XGUEST
variable {tp : List Int}
theorem bn_l {α β : Type} {r : PR α} {f : α → PR β} {e : Int × Nat} (h : bn r f = .inl e) : r = .inl e ∨ ∃ x, r = .inr x ∧ f x = .inl e := by
  match r, h with
  | .inl e1, h =>
    have h2 : (Sum.inl e1 : PR β) = .inl e := h
    cases h2
    exact Or.inl rfl
  | .inr x, h => exact Or.inr ⟨x, rfl, h⟩
theorem XCd.fr {s s' : Mem} {c k : Nat} {cs : Option (List Int)} {P : Nat → Nat → Prop} (h : XCd s c k cs) (hf : Fr P s s') (hp : ∀ i, ¬ P c i ∧ ¬ P (c + 1) i) : XCd s' c k cs := by
  match cs, h with
  | none, ⟨h1, h2⟩ => exact ⟨(hf.i (hp 2).1).trans h1, h2.fr hf hp⟩
  | some cs, ⟨h1, h2⟩ => exact ⟨(hf.i (hp 2).1).trans h1, h2.fr hf hp⟩
theorem XD.fr {s s' : Mem} {o : Nat} {d : Dr} {P : Nat → Nat → Prop} (h : XD s o d) (hf : Fr P s s') (hp : ∀ a k, P a k → a < 6 ∨ 28 ≤ a) : XD s' o d := by
  obtain ⟨h0, ⟨h1, h2, h3, h4⟩, h5, h6, h7, h8, h9, h10⟩ := h
  have g : ∀ a k, o ≤ a → a ≤ o + 10 → rI s' a k = rI s a k := fun a k a1 a2 => hf.i (fun q => by have := hp _ _ q; omega)
  refine ⟨h0, ⟨(g _ _ (by omega) (by omega)).trans h1, (g _ _ (by omega) (by omega)).trans h2, (g _ _ (by omega) (by omega)).trans h3, (g _ _ (by omega) (by omega)).trans h4⟩, ?_, ?_, fun i hi => ?_, h8.fr hf (fun i => ?_), h9.fr hf (fun i => ?_), h10.fr hf (fun i => ?_)⟩
  · rw [g _ _ (by omega) (by omega)]; exact h5
  · rw [g _ _ (by omega) (by omega)]; exact h6
  · obtain ⟨a1, a2, a3, a4⟩ := h7 i hi
    exact ⟨fun k hk => (g _ _ (by omega) (by omega)).trans (a1 k hk), (g _ _ (by omega) (by omega)).trans a2, (g _ _ (by omega) (by omega)).trans a3, (g _ _ (by omega) (by omega)).trans a4⟩
  all_goals (constructor <;> (intro q; have := hp _ _ q; omega))
theorem XBt.add {h v : Int} {l : List Int} (hB : XBt h l) (h0 : 0 ≤ v) (h9 : v < 9) : XBt (iOr h (iShl 1 v)) (l ++ [v]) := by
  obtain ⟨a, ha1, ha2, ha3⟩ := hB
  obtain ⟨z, rfl⟩ := Int.eq_ofNat_of_zero_le h0
  have hz : z < 9 := by omega
  have h2 : 2 ^ z < 1073741824 := Nat.lt_of_lt_of_le (Nat.pow_lt_pow_right (by omega) hz) (by omega)
  have hor := or_bit ha2 hz
  refine ⟨a ||| 2 ^ z, ?_, hor.1, fun q hq => ?_⟩
  · rw [ha1, iShl_1 (by omega), iOr_nat (by omega) h2]
  · rw [hor.2 q hq, List.mem_append, List.mem_singleton, ← ha3 q hq]
    by_cases e : q = z
    · rw [if_pos e]
      exact ⟨fun _ => Or.inr (by omega), fun _ => rfl⟩
    · rw [if_neg e]
      exact ⟨fun h => Or.inl h, fun h => h.elim id (fun h => by omega)⟩
theorem x_nm127 (D : Nat) {q o : Nat} {s : Mem} {d : Dr} {nm : List Int} (hd : DOk d) (h : XS s tp q) (hb : Bys tp) (hg : (dG d).length < 7) (hn : XNm s o (dG d).length nm) (hnl : nm.length ≤ 6) (hn1 : ∀ x ∈ nm, 1 ≤ x) (hX : ∀ i, i < (dG d).length → XNm s o i (gg d i).1) : ∀ (m e : Nat), e + m = (dG d).length → (∀ i, i < e → (gg d i).1 ≠ nm) → ((∃ i, i < (dG d).length ∧ (gg d i).1 = nm) → ∃ s1, L_Rd_readName_127 (D + 3) o ((dG d).length : Int) (e : Int) s = some (0, s1) ∧ Fr PRs s s1 ∧ XF s1 (3, q)) ∧ ((∀ i, i < (dG d).length → (gg d i).1 ≠ nm) → ∃ s1, L_Rd_readName_127 (D + 3) o ((dG d).length : Int) (e : Int) s = some (1, s1) ∧ Fr PRd s s1 ∧ XS s1 tp (nx tp q))
  | 0, e, he, hne => by
    refine ⟨fun ⟨i, h1, h2⟩ => absurd h2 (hne i (by omega)), fun _ => ?_⟩
    obtain ⟨s1, e1, f1, g1⟩ := x_nxS D h hb
    rw [e_Rd_readName_127, if_neg (by omega), e1, Option.bind_some]
    exact ⟨s1, rfl, f1, g1⟩
  | m + 1, e, he, hne => by
    have hge := hd.2.1.2.1 e (by omega)
    have hx := hX e (by omega)
    rw [e_Rd_readName_127, if_pos (by omega), e_Rd_areNamesAlike]
    by_cases c : (gg d e).1 = nm
    · refine ⟨fun _ => ?_, fun h2 => absurd c (h2 e (by omega))⟩
      have hk1 : L_Rd_areNamesAlike_2 (D + 2) o ((dG d).length : Int) (e : Int) 0 s = some (1, s) := x_alike1 (D + 2) hg (by omega) (fun n hn2 => by rw [hn n hn2, ← c]; exact (hx n hn2).symm) 6 0 (by omega)
      rw [hk1, Option.bind_some]
      simp only []
      rw [if_neg one_nz, h.2.1.1]
      exact x_flS (D + 2) (by decide) rfl
    · have hex : ∃ n, 0 ≤ n ∧ n < 6 ∧ rI s (o + 1) (6 * (dG d).length + n) ≠ rI s (o + 1) (6 * e + n) := by
        rcases Classical.em (∃ n, 0 ≤ n ∧ n < 6 ∧ rI s (o + 1) (6 * (dG d).length + n) ≠ rI s (o + 1) (6 * e + n)) with e1 | e1
        · exact e1
        · exfalso
          apply c
          refine nm_eq hge.1.2.1 hnl (fun x hx => (hge.1.2.2 x hx).1) hn1 (fun k hk => ?_)
          rcases Classical.em ((gg d e).1.getD k 0 = nm.getD k 0) with e2 | e2
          · exact e2
          · exact absurd ⟨k, Nat.zero_le _, hk, by rw [hn k hk, hx k hk]; exact fun q => e2 q.symm⟩ e1
      have ih := x_nm127 D hd h hb hg hn hnl hn1 hX m (e + 1) (by omega) (fun i hi => by
        rcases Nat.lt_or_ge i e with e1 | e1
        · exact hne i e1
        · rw [show i = e by omega]; exact c)
      have hk0 : L_Rd_areNamesAlike_2 (D + 2) o ((dG d).length : Int) (e : Int) 0 s = some (0, s) := x_alike0 (D + 2) hg (by omega) 6 0 (by omega) hex
      rw [hk0, Option.bind_some]
      simp only []
      rw [if_pos trivial, w32_s (by omega)]
      exact ih
theorem any_nm {d : Dr} {nm : List Int} : (dG d).any (fun g => g.1 == nm) = true ↔ ∃ i, i < (dG d).length ∧ (gg d i).1 = nm := by
  rw [List.any_eq_true]
  constructor
  · rintro ⟨g, hg, e⟩
    obtain ⟨i, hi, e2⟩ := List.mem_iff_getElem.mp hg
    refine ⟨i, hi, ?_⟩
    rw [beq_iff_eq] at e
    unfold gg
    rw [List.getD_eq_getElem?_getD, List.getElem?_eq_getElem hi, Option.getD_some, e2, e]
  · rintro ⟨i, hi, e⟩
    exact ⟨gg d i, gg_mem hi, by rw [beq_iff_eq]; exact e⟩
theorem x_nameS (D : Nat) {q o : Nat} {s : Mem} {d : Dr} (ho : o = 6 ∨ o = 17) (hd : DOk d) (h : XS s tp q) (hb : Bys tp) (hg : (dG d).length < 7) (hX : ∀ i, i < (dG d).length → XNm s o i (gg d i).1) : (∃ e s1, namP tp q = .inl e ∧ f_Rd_readName (D + 4) o ((dG d).length : Int) s = some (0, s1) ∧ Fr (PSo o) s s1 ∧ XF s1 e) ∨ (∃ s1, namP tp q = .inr (nx tp q) ∧ (dG d).any (fun g => g.1 == nmX tp q) = true ∧ f_Rd_readName (D + 4) o ((dG d).length : Int) s = some (0, s1) ∧ Fr (PSo o) s s1 ∧ XF s1 (3, q)) ∨ ∃ s1, namP tp q = .inr (nx tp q) ∧ ¬ (dG d).any (fun g => g.1 == nmX tp q) = true ∧ f_Rd_readName (D + 4) o ((dG d).length : Int) s = some (1, s1) ∧ Fr (fun a k => PRd a k ∨ a = o + 1 ∧ 6 * (dG d).length ≤ k ∧ k < 6 * (dG d).length + 6) s s1 ∧ XS s1 tp (nx tp q) ∧ XNm s1 o (dG d).length (nmX tp q) := by
  have hl := h.1.2.1
  have hq := h.2.2.2
  have hle : le tp q ≤ tp.length ∧ q ≤ le tp q := ⟨(ru_p hq).2.1, (ru_p hq).1⟩
  unfold namP
  rw [e_Rd_readName, h.2.1.2.2.1, h.2.1.2.2.2.1, h.2.1.1]
  by_cases c : isNm tp q
  · have hkd : ((kd tp q : Nat) : Int) = 1 := by have := c.1; omega
    rw [if_pos c, if_pos hkd]
    have hen : en tp q = le tp q := by unfold en; rw [c.1]; rfl
    have e34 : (if wd tp q < 0 then (L_Rd_readName_34 (D + 3) o ((dG d).length : Int) s) else if wd tp q < 27 then ((f_Rd_fail (D + 3) 1 (q : Int) s).bind fun p1 => if p1.1 = 0 ∨ p1.1 = 1 then some (p1.1, p1.2) else none) else L_Rd_readName_34 (D + 3) o ((dG d).length : Int) s) = L_Rd_readName_34 (D + 3) o ((dG d).length : Int) s := by
      have := c.2
      by_cases c1 : wd tp q < 0
      · rw [if_pos c1]
      · rw [if_neg c1, if_neg (by omega)]
    rw [e34, e_Rd_readName_34, h.2.1.1, h.2.1.2.1, hen, w32_i (z := (le tp q : Int) - (q : Int)) (by omega) (by omega)]
    by_cases c6 : 6 < le tp q - q
    · rw [if_pos c6, if_pos (by omega), w32_i (by omega) (by omega)]
      obtain ⟨s1, e1, f1, g1⟩ := x_flS (s := s) (a := 1) (q := q + 6) (b := (q : Int) + 6) (D + 2) (by decide) (by omega)
      exact Or.inl ⟨_, s1, rfl, e1, f1.rs, g1⟩
    · rw [if_neg c6, if_neg (by omega)]
      obtain ⟨s1, e1, f1, g1, g2⟩ := x_nm63 (D + 2) hg ho c.1 (by omega) 6 0 s (by omega) h (fun n hn => by omega)
      obtain ⟨p1, p2, p3⟩ := nmX_p c (by omega)
      have h127 := x_nm127 D hd g1 hb hg g2 p2 (fun x hx => (p3 x hx).1) (fun i hi k hk => by
        rw [f1.i (by omega)]
        exact hX i hi k hk) (dG d).length 0 (by omega) (fun i hi => by omega)
      have e1' : L_Rd_readName_63 (D + 3) o ((dG d).length : Int) 0 s = L_Rd_readName_127 (D + 3) o ((dG d).length : Int) 0 s1 := e1
      have f1s : Fr (PSo o) s s1 := f1.mo (fun a k q => by unfold PSo; omega)
      rw [e1']
      by_cases ca : (dG d).any (fun g => g.1 == nmX tp q) = true
      · obtain ⟨s2, e2, f2, g3⟩ := h127.1 (any_nm.mp ca)
        exact Or.inr (Or.inl ⟨s2, rfl, ca, e2, f1s.tr f2.rs, g3⟩)
      · obtain ⟨s2, e2, f2, g3⟩ := h127.2 (fun i hi e => ca (any_nm.mpr ⟨i, hi, e⟩))
        exact Or.inr (Or.inr ⟨s2, rfl, ca, e2, (f1.mo (fun a k q => Or.inr q)).tr (f2.mo (fun a k q => Or.inl q)), g3, fun k hk => by rw [f2.i (by unfold PRd; omega)]; exact g2 k hk⟩)
  · rw [if_neg c]
    obtain ⟨s1, e1, f1, g1⟩ := x_flS (s := s) (a := 1) (q := q) (b := (q : Int)) (D + 2) (by decide) rfl
    refine Or.inl ⟨_, s1, rfl, ?_, f1.rs, g1⟩
    by_cases k1 : kd tp q = 1
    · have hw : 0 ≤ wd tp q ∧ wd tp q < 27 := by
        rcases Classical.em (0 ≤ wd tp q ∧ wd tp q < 27) with e | e
        · exact e
        · exact absurd ⟨k1, e⟩ c
      rw [if_pos (by omega), if_neg (by omega), if_pos hw.2]
      exact e1
    · rw [if_neg (by omega)]
      exact e1
theorem any_st {d : Dr} {x : Int} : ((dG d).map (fun g => g.2.1)).any (fun h => h == x) = (dG d).any (fun g => g.2.1 == x) := by
  rw [List.any_map]; rfl
theorem x_guestS (D : Nat) {q o : Nat} {s : Mem} {d : Dr} (hd : DOk d) (h : XS s tp q) (hX : XD s o d) (hb : Bys tp) : XOS tp (f_Rd_readGuest (D + 6) o s) (gstP tp d q) s o := by
  have hl := h.1.2.1
  have hg7 := hd.2.1.1
  have hN9 := hd.1.2
  have ho := hX.1
  unfold gstP
  rw [e_Rd_readGuest, hX.2.1.2.2.1, h.2.1.1, if_neg (by omega)]
  by_cases c7 : (dG d).length = 7
  · rw [if_pos c7, if_neg (by omega)]
    obtain ⟨s1, e1, f1, g1⟩ := x_flS (s := s) (a := 5) (q := q) (b := (q : Int)) (D + 4) (by decide) rfl
    exact ⟨s1, e1, f1.rs, g1⟩
  · rw [if_neg c7, if_pos (by omega)]
    obtain ⟨s1, e1, f1, g1⟩ := x_nxS (D + 2) h hb
    have f1r : Fr PRs s s1 := f1.mo (fun a k q => by unfold PRs; unfold PRd at q; omega)
    have X1 := hX.fr f1 (fun a k q => by unfold PRd at q; omega)
    rw [e1, Option.bind_some]
    simp only []
    rcases x_nameS (D + 1) ho hd g1 hb (by omega) (fun i hi => (X1.2.2.2.2.1 i hi).1) with ⟨e, s2, r2, e2, f2, g2⟩ | ⟨s2, r2, ra, e2, f2, g2⟩ | ⟨s2, r2, ra, e2, f2, g2, n2⟩
    · rw [r2, e2, Option.bind_some]
      exact ⟨s2, if_pos rfl, f1r.rs.tr f2, g2⟩
    · rw [r2, e2, Option.bind_some]
      simp only [bn]
      rw [if_pos ra]
      exact ⟨s2, if_pos trivial, f1r.rs.tr f2, g2⟩
    · have f2s : Fr (PSo o) s1 s2 := f2.mo (fun a k q => by unfold PSo; unfold PRd at q; omega)
      rw [r2, e2, Option.bind_some]
      simp only [bn]
      rw [if_neg ra, if_neg one_nz]
      rcases x_wrdS (D + 1) g2 hb 2 with ⟨e, s3, r3, e3, f3, g3⟩ | ⟨q3, s3, r3, e3, f3, g3⟩
      · rw [r3, e3, Option.bind_some]
        exact ⟨s3, if_pos rfl, (f1r.rs.tr f2s).tr f3.rs, g3⟩
      · have e31 : rI s3 o 1 = (dN d : Int) := by rw [f3.i (by unfold PRs; omega), f2.i (by unfold PRd; omega)]; exact X1.2.1.2.1
        have e34 : rI s3 o 4 = rI s1 o 4 := by rw [f3.i (by unfold PRs; omega), f2.i (by unfold PRd; omega)]
        have B3 : XBt (rI s3 o 4) ((dG d).map (fun g => g.2.1)) := by rw [e34]; exact X1.2.2.2.1
        rw [r3, e3, Option.bind_some]
        simp only [bn]
        rw [if_neg one_nz, e31]
        rcases x_seatS D g3 hb hN9 B3 with ⟨e, s4, r4, e4, f4, g4⟩ | ⟨s4, ⟨r4, ra4, z4, n4⟩, e4, f4, g4, v4, -⟩
        · rw [e4, Option.bind_some]
          rcases bn_l r4 with r4a | ⟨x, r4a, r5⟩
          · rw [r4a]
            exact ⟨s4, if_pos rfl, ((f1r.rs.tr f2s).tr f3.rs).tr f4.rs, g4⟩
          · rw [any_st] at r5
            split at r5
            · next a5 =>
              cases r5
              rw [r4a]
              simp only []
              rw [if_pos a5]
              exact ⟨s4, if_pos trivial, ((f1r.rs.tr f2s).tr f3.rs).tr f4.rs, g4⟩
            · cases r5
        · rw [any_st] at ra4
          rw [r4, e4, Option.bind_some]
          simp only []
          rw [if_neg ra4, if_neg one_nz, inB_n (by omega), Int.toNat_natCast, v4]
          have w4 : Fr (fun a k => a = o + 2 ∧ k = (dG d).length ∨ a = o ∧ k = 4) s4 (wI (wI s4 (o + 2) (dG d).length (nu tp q3)) o 4 (iOr (rI (wI s4 (o + 2) (dG d).length (nu tp q3)) o 4) (iShl 1 (rI (wI s4 (o + 2) (dG d).length (nu tp q3)) 3 14)))) := (Fr.rf.w (Or.inl ⟨rfl, rfl⟩)).w (Or.inr ⟨rfl, rfl⟩)
          have b4 : rI (wI (wI s4 (o + 2) (dG d).length (nu tp q3)) o 4 (iOr (rI (wI s4 (o + 2) (dG d).length (nu tp q3)) o 4) (iShl 1 (rI (wI s4 (o + 2) (dG d).length (nu tp q3)) 3 14)))) o 4 = iOr (rI s3 o 4) (iShl 1 (nu tp q3)) := by
            rw [rI_same, rI_other _ _ _ _ (by omega), rI_other _ _ _ _ (by omega), v4, f4.i (by unfold PRs; omega)]
          have t4 : rI (wI (wI s4 (o + 2) (dG d).length (nu tp q3)) o 4 (iOr (rI (wI s4 (o + 2) (dG d).length (nu tp q3)) o 4) (iShl 1 (rI (wI s4 (o + 2) (dG d).length (nu tp q3)) 3 14)))) (o + 2) (dG d).length = nu tp q3 := by
            rw [rI_other _ _ _ _ (by omega), rI_same]
          generalize wI (wI s4 (o + 2) (dG d).length (nu tp q3)) o 4 (iOr (rI (wI s4 (o + 2) (dG d).length (nu tp q3)) o 4) (iShl 1 (rI (wI s4 (o + 2) (dG d).length (nu tp q3)) 3 14))) = s5 at w4 b4 t4 ⊢
          have g5 := g4.fr w4 (fun a k q => by omega)
          have f5 : Fr (PSo o) s s5 := ((((f1r.rs.tr f2s).tr f3.rs).tr f4.rs)).tr (w4.mo (fun a k q => by unfold PSo; omega))
          rcases x_wrdS (D + 1) g5 hb 3 with ⟨e, s6, r6, e6, f6, g6⟩ | ⟨q6, s6, r6, e6, f6, g6⟩
          · rw [r6, e6, Option.bind_some]
            exact ⟨s6, if_pos rfl, f5.tr f6.rs, g6⟩
          · rw [r6, e6, Option.bind_some]
            simp only []
            rw [if_neg one_nz]
            rcases x_numS D g6 hb 9 with ⟨e, s7, r7, e7, f7, g7⟩ | ⟨s7, r7, e7, f7, g7, v7, -⟩
            · rw [r7, e7, Option.bind_some]
              exact ⟨s7, if_pos rfl, (f5.tr f6.rs).tr f7.rs, g7⟩
            · rw [r7, e7, Option.bind_some]
              simp only []
              rw [if_neg one_nz, inB_n (by omega), v7]
              have w7 : Fr (fun a k => a = o + 3 ∧ k = (dG d).length) s7 (wI s7 (o + 3) (dG d).length (nu tp q6)) := Fr.rf.w ⟨rfl, rfl⟩
              have t7 : rI (wI s7 (o + 3) (dG d).length (nu tp q6)) (o + 3) (dG d).length = nu tp q6 := rI_same _ _ _ _
              generalize wI s7 (o + 3) (dG d).length (nu tp q6) = s8 at w7 t7 ⊢
              have g8 := g7.fr w7 (fun a k q => by omega)
              have f8 : Fr (PSo o) s s8 := ((f5.tr f6.rs).tr f7.rs).tr (w7.mo (fun a k q => by unfold PSo; omega))
              rcases x_wrdS (D + 1) g8 hb 4 with ⟨e, s9, r9, e9, f9, g9⟩ | ⟨q9, s9, r9, e9, f9, g9⟩
              · rw [r9, e9, Option.bind_some]
                exact ⟨s9, if_pos rfl, f8.tr f9.rs, g9⟩
              · rw [r9, e9, Option.bind_some]
                simp only []
                rw [if_neg one_nz]
                rcases x_numS D g9 hb 9 with ⟨e, sa, ra, ea, fa, ga⟩ | ⟨sa, ra, ea, fa, ga, va, -⟩
                · rw [ra, ea, Option.bind_some]
                  exact ⟨sa, if_pos rfl, (f8.tr f9.rs).tr fa.rs, ga⟩
                · rw [ra, ea, Option.bind_some]
                  simp only []
                  rw [if_neg one_nz, inB_n (by omega), va]
                  have ka : rI sa o 2 = ((dG d).length : Int) := by
                    rw [fa.i (by unfold PRs; omega), f9.i (by unfold PRs; omega), w7.i (by omega), f7.i (by unfold PRs; omega), f6.i (by unfold PRs; omega), w4.i (by omega), f4.i (by unfold PRs; omega), f3.i (by unfold PRs; omega), f2.i (by unfold PRd; omega)]
                    exact X1.2.1.2.2.1
                  rw [rI_other _ _ _ _ (by omega), ka, w32_s (by omega)]
                  have wa : Fr (fun a k => a = o + 4 ∧ k = (dG d).length ∨ a = o ∧ k = 2) sa (wI (wI sa (o + 4) (dG d).length (nu tp q9)) o 2 (((dG d).length + 1 : Nat) : Int)) := (Fr.rf.w (Or.inl ⟨rfl, rfl⟩)).w (Or.inr ⟨rfl, rfl⟩)
                  have ta : rI (wI (wI sa (o + 4) (dG d).length (nu tp q9)) o 2 (((dG d).length + 1 : Nat) : Int)) (o + 4) (dG d).length = nu tp q9 := by rw [rI_other _ _ _ _ (by omega), rI_same]
                  have kb : rI (wI (wI sa (o + 4) (dG d).length (nu tp q9)) o 2 (((dG d).length + 1 : Nat) : Int)) o 2 = (((dG d).length + 1 : Nat) : Int) := rI_same _ _ _ _
                  generalize wI (wI sa (o + 4) (dG d).length (nu tp q9)) o 2 (((dG d).length + 1 : Nat) : Int) = sb at wa ta kb ⊢
                  /- all that was written, from s1 on -/
                  have fall : Fr (fun a k => a = 3 ∨ a = o + 1 ∧ 6 * (dG d).length ≤ k ∧ k < 6 * (dG d).length + 6 ∨ (a = o + 2 ∨ a = o + 3 ∨ a = o + 4) ∧ k = (dG d).length ∨ a = o ∧ (k = 2 ∨ k = 4)) s1 sb := by
                    refine Fr.tr (Fr.tr (Fr.tr (Fr.tr (Fr.tr (Fr.tr (Fr.tr (Fr.tr (Fr.tr (f2.mo ?_) (f3.mo ?_)) (f4.mo ?_)) (w4.mo ?_)) (f6.mo ?_)) (f7.mo ?_)) (w7.mo ?_)) (f9.mo ?_)) (fa.mo ?_)) (wa.mo ?_)
                    all_goals (intro a k q; first | (unfold PRd at q; omega) | (unfold PRs at q; omega) | omega)
                  refine ⟨sb, rfl, ((f8.tr f9.rs).tr fa.rs).tr (wa.mo (fun a k q => by unfold PSo; omega)), ga.fr wa (fun a k q => by omega), ?_⟩
                  obtain ⟨-, ⟨y1, y2, y3, y4⟩, y5, y6, y7, y8, y9, y10⟩ := X1
                  have hgl : (dG d ++ [(nmX tp (nx tp q), nu tp q3, nu tp q6, nu tp q9)]).length = (dG d).length + 1 := by rw [List.length_append]; rfl
                  refine ⟨ho, ⟨(fall.i (by omega)).trans y1, (fall.i (by omega)).trans y2, ?_, (fall.i (by omega)).trans y4⟩, ?_, ?_, fun i hi => ?_, y8.fr fall (fun i => ⟨by omega, by omega⟩), y9.fr fall (fun i => ⟨by omega, by omega⟩), y10.fr fall (fun i => ⟨by omega, by omega⟩)⟩
                  · rw [kb]
                    show _ = ((dG d ++ [(nmX tp (nx tp q), nu tp q3, nu tp q6, nu tp q9)]).length : Int)
                    rw [hgl]
                  · rw [fall.i (by omega)]; exact y5
                  · have eb : rI sb o 4 = iOr (rI s3 o 4) (iShl 1 (nu tp q3)) := by
                      rw [wa.i (by omega), fa.i (by unfold PRs; omega), f9.i (by unfold PRs; omega), w7.i (by omega), f7.i (by unfold PRs; omega), f6.i (by unfold PRs; omega)]
                      exact b4
                    rw [eb]
                    show XBt _ ((dG d ++ [(nmX tp (nx tp q), nu tp q3, nu tp q6, nu tp q9)]).map (fun g => g.2.1))
                    rw [List.map_append]
                    exact B3.add z4 (by omega)
                  · have hi2 : i < (dG d).length + 1 := by rw [← hgl]; exact hi
                    rw [gg_app (d := (d.1, d.2.1, dG d ++ [(nmX tp (nx tp q), nu tp q3, nu tp q6, nu tp q9)], d.2.2.2)) rfl]
                    by_cases c : i < (dG d).length
                    · rw [if_pos c]
                      obtain ⟨a1, a2, a3, a4⟩ := y7 i c
                      exact ⟨fun k hk => (fall.i (by omega)).trans (a1 k hk), (fall.i (by omega)).trans a2, (fall.i (by omega)).trans a3, (fall.i (by omega)).trans a4⟩
                    · have ei : i = (dG d).length := by omega
                      rw [if_neg c, if_pos ei, ei]
                      refine ⟨fun k hk => ?_, ?_, ?_, ?_⟩
                      · rw [wa.i (by omega), fa.i (by unfold PRs; omega), f9.i (by unfold PRs; omega), w7.i (by omega), f7.i (by unfold PRs; omega), f6.i (by unfold PRs; omega), w4.i (by omega), f4.i (by unfold PRs; omega), f3.i (by unfold PRs; omega)]
                        exact n2 k hk
                      · rw [wa.i (by omega), fa.i (by unfold PRs; omega), f9.i (by unfold PRs; omega), w7.i (by omega), f7.i (by unfold PRs; omega), f6.i (by unfold PRs; omega)]
                        exact t4
                      · rw [wa.i (by omega), fa.i (by unfold PRs; omega), f9.i (by unfold PRs; omega)]
                        exact t7
                      · exact ta
end XGUEST
