/-! the class reads statements -/
section NZ
variable {tp : List Int}
def Nz (sub : Nat → Res) : Prop := ∀ q e, sub q = .inl e → e.1 ≠ 0
theorem lpW_nz {op : Nat → Int} {sub : Nat → Res} (hs : Nz sub) : ∀ (f q : Nat) (C : List Int) (e : Int × Nat), lpW tp op sub f q C = .inl e → e.1 ≠ 0
  | 0, q, C, e, h => by cases h
  | f + 1, q, C, e, h => by
    unfold lpW at h
    split at h
    · cases h
    · rcases bnd_l h with h | ⟨q1, c1, -, h⟩
      · exact hs _ _ h
      · exact lpW_nz hs f _ _ e h
theorem lpL_nz {op : Nat → Int} {sub : Nat → Res} (hs : Nz sub) : Nz (lpL tp op sub) := fun q e h => by
  rcases bnd_l h with h | ⟨q1, c1, -, h⟩
  · exact hs _ _ h
  · exact lpW_nz hs _ _ _ e h
theorem sumP_nz {pt : Nat → Res} (h : Nz pt) : Nz (sumP tp pt) := lpL_nz (lpL_nz h)
theorem tesP_nz {fa : Nat → Res} (h : Nz fa) : Nz (tesP tp fa) := lpL_nz (lpL_nz h)
theorem asg_nz {v : Int} {q : Nat} {f : Nat → Res} {e : Int × Nat} (hf : ∀ q e, f q = .inl e → e.1 ≠ 0) (h : asg tp v q f = .inl e) : e.1 ≠ 0 := by
  rcases asg_l h with ⟨-, rfl⟩ | ⟨-, h⟩
  · exact nz1
  · exact hf _ _ h
theorem parS_nz {k : Nat} {sub : Option (Nat → Res)} (h : ∀ pt, sub = some pt → Nz pt) : Nz (parS tp k sub) := fun q e he => by
  unfold parS at he
  split at he
  · split at he <;> cases he
    exact nz1
  · split at he
    · split at he
      · cases he; first | exact nz1 | exact nz4
      · next pt =>
        rcases bnd_l he with he | ⟨q1, c1, -, he⟩
        · exact sumP_nz (h pt rfl) _ _ he
        · exact asg_nz (fun q e he => by cases he) he
    · split at he
      · split at he
        · split at he
          · cases he; first | exact nz1 | exact nz4
          · next pt =>
            rcases bnd_l he with he | ⟨q1, c1, -, he⟩
            · exact sumP_nz (h pt rfl) _ _ he
            · refine asg_nz (fun q e he => ?_) he
              rcases bnd_l he with he | ⟨q1, c1, -, he⟩
              · exact sumP_nz (h pt rfl) _ _ he
              · exact asg_nz (fun q e he => by cases he) he
        · cases he; first | exact nz1 | exact nz4
      · split at he
        · split at he
          · cases he; first | exact nz1 | exact nz4
          · next pt =>
            rcases bnd_l he with he | ⟨q1, c1, -, he⟩
            · exact h pt rfl _ _ he
            · cases he
        · split at he <;> cases he
          exact nz1
theorem parL_nz (k : Nat) : ∀ n, Nz (parL tp k n)
  | 0 => parS_nz (fun _ h => by cases h)
  | n + 1 => parS_nz (fun _ h => by cases h; exact parL_nz k n)
theorem sumL_nz (k n : Nat) : Nz (sumL tp k n) := sumP_nz (parL_nz k n)
theorem facS_nz {k n : Nat} {sub : Option (Nat → Res)} (h : ∀ pt, sub = some pt → Nz pt) : Nz (facS tp k n sub) := fun q e he => by
  unfold facS at he
  split at he
  · split at he
    · cases he; first | exact nz1 | exact nz4
    · next fa =>
      rcases bnd_l he with he | ⟨q1, c1, -, he⟩
      · exact h fa rfl _ _ he
      · cases he
  · split at he
    · cases he
    · split at he
      · split at he
        · cases he; first | exact nz1 | exact nz4
        · next fa =>
          rcases bnd_l he with he | ⟨q1, c1, -, he⟩
          · exact tesP_nz (h fa rfl) _ _ he
          · exact asg_nz (fun q e he => by cases he) he
      · rcases bnd_l he with he | ⟨q1, c1, -, he⟩
        · exact sumL_nz k n _ _ he
        · split at he
          · cases he; first | exact nz1 | exact nz4
          · rcases bnd_l he with he | ⟨q2, c2, -, he⟩
            · exact sumL_nz k n _ _ he
            · cases he
theorem facL_nz (k : Nat) : ∀ n, Nz (facL tp k n)
  | 0 => facS_nz (fun _ h => by cases h)
  | n + 1 => facS_nz (fun _ h => by cases h; exact facL_nz k n)
theorem tesL_nz (k n : Nat) : Nz (tesL tp k n) := tesP_nz (facL_nz k n)
theorem cdP_nz (k : Nat) : Nz (cdP tp k) := fun q e h => by
  unfold cdP at h
  split at h
  · exact tesL_nz k 6 _ _ h
  · exact sumL_nz k 6 _ _ h
end NZ
theorem nz2 : (2 : Int) ≠ 0 := by decide
abbrev PRs : Nat → Nat → Prop := fun a k => a = 3 ∧ (k = 3 ∨ k = 4 ∨ 8 ≤ k ∧ k ≤ 15)
/-- a statement's frame: the reader, the draft -/
abbrev PSo (o : Nat) : Nat → Nat → Prop := fun a k => a = 3 ∧ 3 ≤ k ∧ k ≤ 15 ∨ o ≤ a ∧ a ≤ o + 10
def XS (s : Mem) (tp : List Int) (q : Nat) : Prop := XTp s tp ∧ XRd s tp q ∧ OkF s ∧ q ≤ tp.length
def XF (s : Mem) (e : Int × Nat) : Prop := (rI s 3 3 = e.1 ∧ e.1 ≠ 0) ∧ rI s 3 4 = (e.2 : Int)
section XSTAT
variable {tp : List Int}
theorem Fr.rs {s s' : Mem} {o : Nat} (h : Fr PRs s s') : Fr (PSo o) s s' := h.mo (fun a k q => by unfold PSo; unfold PRs at q; omega)
theorem XS.fr {s s' : Mem} {q : Nat} {P : Nat → Nat → Prop} (h : XS s tp q) (hf : Fr P s s') (hp : ∀ a k, P a k → 4 ≤ a) : XS s' tp q := by
  obtain ⟨h1, h2, h3, h4⟩ := h
  exact ⟨h1.fr hf (fun a k q => by have := hp _ _ q; omega), h2.fr hf (fun a k q => by have := hp _ _ q; omega), h3.fr hf (fun k hk q => by have := hp _ _ q; omega), h4⟩
theorem x_nxS (D : Nat) {s : Mem} {q : Nat} (h : XS s tp q) (hb : Bys tp) : ∃ s1, f_Rd_next (D + 3) s = some (0, s1) ∧ Fr PRd s s1 ∧ XS s1 tp (nx tp q) := by
  obtain ⟨h1, h2, h3, h4⟩ := h
  obtain ⟨s1, e1, f1, g1⟩ := x_nx D h1 hb h4 h2
  exact ⟨s1, e1, f1, h1.fr f1 (fun a k q => by unfold PRd at q; omega), g1, h3.fr f1 (fun k hk q => by unfold PRd at q; omega), (nx_p h4).2.1⟩
theorem x_flS (D : Nat) {s : Mem} {a b : Int} {q : Nat} (ha : a ≠ 0) (hb : b = (q : Int)) : ∃ s1, ((f_Rd_fail (D + 1) a b s).bind fun p1 => if p1.1 = 0 ∨ p1.1 = 1 then some (p1.1, p1.2) else none) = some (0, s1) ∧ Fr PRs s s1 ∧ XF s1 (a, q) := by
  rw [e_Rd_fail, Option.bind_some]
  refine ⟨_, if_pos (Or.inl rfl), (Fr.rf.w (by unfold PRs; omega)).w (by unfold PRs; omega), ⟨by rw [rI_other _ _ _ _ (by omega), rI_same], ha⟩, by rw [rI_same, hb]⟩
theorem x_wrdS (D : Nat) {s : Mem} {q : Nat} (h : XS s tp q) (hb : Bys tp) (i : Int) : (∃ e s1, wrdP tp i q = .inl e ∧ f_Rd_takeWord (D + 4) i s = some (0, s1) ∧ Fr PRs s s1 ∧ XF s1 e) ∨ ∃ q1 s1, wrdP tp i q = .inr q1 ∧ f_Rd_takeWord (D + 4) i s = some (1, s1) ∧ Fr PRs s s1 ∧ XS s1 tp q1 := by
  unfold wrdP
  rw [e_Rd_takeWord, h.2.1.2.2.2.1, h.2.1.1]
  by_cases c : wd tp q = i
  · obtain ⟨s1, e1, f1, g1⟩ := x_nxS D h hb
    rw [if_pos c, if_pos c, e1, Option.bind_some]
    exact Or.inr ⟨_, s1, rfl, rfl, f1.mo (fun a k q => by unfold PRs; unfold PRd at q; omega), g1⟩
  · obtain ⟨s1, e1, f1, g1⟩ := x_flS (s := s) (a := 1) (q := q) (D + 2) (by decide) rfl
    rw [if_neg c, if_neg c]
    exact Or.inl ⟨_, s1, rfl, e1, f1, g1⟩
theorem x_sgnS (D : Nat) {s : Mem} {q : Nat} (h : XS s tp q) (hb : Bys tp) (i : Int) : (∃ e s1, sgnP tp i q = .inl e ∧ f_Rd_takeSign (D + 4) i s = some (0, s1) ∧ Fr PRs s s1 ∧ XF s1 e) ∨ ∃ q1 s1, sgnP tp i q = .inr q1 ∧ f_Rd_takeSign (D + 4) i s = some (1, s1) ∧ Fr PRs s s1 ∧ XS s1 tp q1 := by
  unfold sgnP
  rw [e_Rd_takeSign, h.2.1.2.2.2.2.1, h.2.1.1]
  by_cases c : sg tp q = i
  · obtain ⟨s1, e1, f1, g1⟩ := x_nxS D h hb
    rw [if_pos c, if_pos c, e1, Option.bind_some]
    exact Or.inr ⟨_, s1, rfl, rfl, f1.mo (fun a k q => by unfold PRs; unfold PRd at q; omega), g1⟩
  · obtain ⟨s1, e1, f1, g1⟩ := x_flS (s := s) (a := 1) (q := q) (D + 2) (by decide) rfl
    rw [if_neg c, if_neg c]
    exact Or.inl ⟨_, s1, rfl, e1, f1, g1⟩
theorem x_tknS (D : Nat) {s : Mem} {q : Nat} (h : XS s tp q) (hb : Bys tp) : (kd tp q = 2 → de tp q - q ≤ 4 → ∃ s1, f_Rd_takeNumber (D + 4) s = some (1, s1) ∧ Fr PRs s s1 ∧ XS s1 tp (nx tp q) ∧ rI s1 3 14 = nu tp q ∧ rI s1 3 15 = (q : Int)) ∧ (kd tp q = 2 → 4 < de tp q - q → ∃ s1, f_Rd_takeNumber (D + 4) s = some (0, s1) ∧ Fr PRs s s1 ∧ XF s1 (1, q + 4)) ∧ (kd tp q ≠ 2 → ∃ s1, f_Rd_takeNumber (D + 4) s = some (0, s1) ∧ Fr PRs s s1 ∧ XF s1 (1, q)) := by
  have hl := h.1.2.1
  have hq := h.2.2.2
  have hd : de tp q ≤ tp.length := (ru_p hq).2.1
  have hdq : q ≤ de tp q := (ru_p hq).1
  rw [e_Rd_takeNumber, h.2.1.2.2.1, h.2.1.1, h.2.1.2.1]
  refine ⟨fun k2 hn => ?_, fun k2 hn => ?_, fun k2 => ?_⟩
  · have hen : en tp q = de tp q := by unfold en; rw [k2]; rfl
    rw [if_pos (by omega), hen, w32_i (by omega) (by omega), if_neg (by omega), h.2.1.2.2.2.2.2 k2]
    have f0 : Fr (fun a i => a = 3 ∧ (i = 14 ∨ i = 15)) s (wI (wI s 3 14 (nu tp q)) 3 15 (q : Int)) := (Fr.rf.w ⟨rfl, Or.inl rfl⟩).w ⟨rfl, Or.inr rfl⟩
    have h0 : XS (wI (wI s 3 14 (nu tp q)) 3 15 (q : Int)) tp q := by
      obtain ⟨h1, h2, h3, h4⟩ := h
      exact ⟨h1.fr f0 (fun a k q => by omega), h2.fr f0 (fun a k q => by omega), h3.fr f0 (fun k hk q => by omega), h4⟩
    obtain ⟨s1, e1, f1, g1⟩ := x_nxS D h0 hb
    rw [e1, Option.bind_some]
    exact ⟨s1, rfl, (f0.mo (fun a i q => by unfold PRs; omega)).tr (f1.mo (fun a k q => by unfold PRs; unfold PRd at q; omega)), g1, by rw [f1.i (by unfold PRd; omega), rI_other _ _ _ _ (by omega), rI_same], by rw [f1.i (by unfold PRd; omega), rI_same]⟩
  · have hen : en tp q = de tp q := by unfold en; rw [k2]; rfl
    rw [if_pos (by omega), hen, w32_i (by omega) (by omega), if_pos (by omega), w32_i (by omega) (by omega)]
    exact x_flS (s := s) (a := 1) (q := q + 4) (b := (q : Int) + 4) (D + 2) (by decide) (by omega)
  · rw [if_neg (by omega)]
    exact x_flS (s := s) (a := 1) (q := q) (b := (q : Int)) (D + 2) (by decide) rfl
theorem x_numS (D : Nat) {s : Mem} {q : Nat} (h : XS s tp q) (hb : Bys tp) (m : Int) : (∃ e s1, numP tp 0 m q = .inl e ∧ f_Rd_takeNumberUpTo (D + 5) m s = some (0, s1) ∧ Fr PRs s s1 ∧ XF s1 e) ∨ ∃ s1, numP tp 0 m q = .inr (nx tp q, nu tp q) ∧ f_Rd_takeNumberUpTo (D + 5) m s = some (1, s1) ∧ Fr PRs s s1 ∧ XS s1 tp (nx tp q) ∧ rI s1 3 14 = nu tp q ∧ rI s1 3 15 = (q : Int) := by
  have ht := x_tknS D h hb
  have hr := (nu_r (tp := tp) h.2.2.2).1
  unfold numP
  rw [e_Rd_takeNumberUpTo]
  by_cases k2 : kd tp q = 2
  · rw [if_pos k2]
    by_cases c4 : 4 < de tp q - q
    · obtain ⟨s1, e1, f1, g1⟩ := ht.2.1 k2 c4
      rw [if_pos c4, e1, Option.bind_some]
      exact Or.inl ⟨_, s1, rfl, if_pos rfl, f1, g1⟩
    · obtain ⟨s1, e1, f1, g1, g2, g3⟩ := ht.1 k2 (by omega)
      rw [if_neg c4, e1, Option.bind_some]
      simp only []
      rw [if_neg one_nz, g2, g3]
      by_cases c : m < nu tp q
      · rw [if_pos c, if_neg (show ¬ (0 ≤ nu tp q ∧ nu tp q ≤ m) by omega), e_Rd_fail, Option.bind_some]
        refine Or.inl ⟨_, _, rfl, if_pos rfl, (f1.w (by unfold PRs; omega)).w (by unfold PRs; omega), ⟨by rw [rI_other _ _ _ _ (by omega), rI_same], nz2⟩, rI_same _ _ _ _⟩
      · rw [if_neg c, if_pos (show 0 ≤ nu tp q ∧ nu tp q ≤ m by omega)]
        exact Or.inr ⟨s1, rfl, rfl, f1, g1, g2, g3⟩
  · obtain ⟨s1, e1, f1, g1⟩ := ht.2.2 k2
    rw [if_neg k2, e1, Option.bind_some]
    exact Or.inl ⟨_, s1, rfl, if_pos rfl, f1, g1⟩
/-- bits by a list of seats -/
def XBt (h : Int) (l : List Int) : Prop := ∃ a : Nat, h = (a : Int) ∧ a < 512 ∧ ∀ q : Nat, q < 9 → (a / 2 ^ q % 2 = 1 ↔ (q : Int) ∈ l)
theorem x_seatS (D : Nat) {s : Mem} {q n : Nat} {bs : Int} {l : List Int} (h : XS s tp q) (hb : Bys tp) (hn : n ≤ 9) (hB : XBt bs l) : (∃ e s1, (bn (numP tp 0 ((n : Int) - 1) q) fun x => if l.any (fun h => h == x.2) then .inl (2, q) else .inr x.2) = .inl e ∧ f_Rd_takeSeat (D + 5) (n : Int) bs s = some (0, s1) ∧ Fr PRs s s1 ∧ XF s1 e) ∨ ∃ s1, (numP tp 0 ((n : Int) - 1) q = .inr (nx tp q, nu tp q) ∧ ¬ l.any (fun h => h == nu tp q) = true ∧ 0 ≤ nu tp q ∧ nu tp q < (n : Int)) ∧ f_Rd_takeSeat (D + 5) (n : Int) bs s = some (1, s1) ∧ Fr PRs s s1 ∧ XS s1 tp (nx tp q) ∧ rI s1 3 14 = nu tp q ∧ rI s1 3 15 = (q : Int) := by
  have ht := x_tknS D h hb
  have hr := nu_r (tp := tp) h.2.2.2
  unfold numP
  rw [e_Rd_takeSeat]
  by_cases k2 : kd tp q = 2
  · rw [if_pos k2]
    by_cases c4 : 4 < de tp q - q
    · obtain ⟨s1, e1, f1, g1⟩ := ht.2.1 k2 c4
      rw [if_pos c4, e1, Option.bind_some]
      exact Or.inl ⟨_, s1, rfl, if_pos rfl, f1, g1⟩
    · obtain ⟨s1, e1, f1, g1, g2, g3⟩ := ht.1 k2 (by omega)
      rw [if_neg c4, e1, Option.bind_some]
      simp only []
      have fl : ∃ s2, L_Rd_takeSeat_26 (D + 4) s1 = some (0, s2) ∧ Fr PRs s s2 ∧ XF s2 (2, q) := by
        rw [e_Rd_takeSeat_26, e_Rd_fail, g3, Option.bind_some]
        exact ⟨_, if_pos rfl, (f1.w (by unfold PRs; omega)).w (by unfold PRs; omega), ⟨by rw [rI_other _ _ _ _ (by omega), rI_same], nz2⟩, rI_same _ _ _ _⟩
      rw [if_neg one_nz, g2]
      by_cases c : nu tp q < (n : Int)
      · obtain ⟨z, hz⟩ := Int.eq_ofNat_of_zero_le hr.1
        obtain ⟨a, ha1, ha2, ha3⟩ := hB
        rw [if_pos c, if_pos (show 0 ≤ nu tp q ∧ nu tp q ≤ (n : Int) - 1 by omega), hz, ha1, bit_n (by omega) (by omega)]
        have e9 := ha3 z (by omega)
        simp only [bn]
        by_cases cm : (z : Int) ∈ l
        · have h1 := e9.mpr cm
          have hany : l.any (fun h => h == (z : Int)) = true := List.any_eq_true.mpr ⟨_, cm, beq_self_eq_true _⟩
          rw [h1, if_neg (show ¬ (((1 : Nat) : Int) = 0) by decide), if_pos hany]
          obtain ⟨s2, e2, f2, g4⟩ := fl
          exact Or.inl ⟨_, s2, rfl, e2, f2, g4⟩
        · have h0 : ¬ a / 2 ^ z % 2 = 1 := fun e => cm (e9.mp e)
          have hna : ¬ l.any (fun h => h == (z : Int)) = true := fun e => by
            obtain ⟨y, hy, e2⟩ := List.any_eq_true.mp e
            rw [beq_iff_eq] at e2
            rw [e2] at hy
            exact cm hy
          rw [show a / 2 ^ z % 2 = 0 by omega]
          refine Or.inr ⟨s1, ⟨trivial, hna, by omega, by omega⟩, if_pos rfl, f1, g1, g2.trans hz, g3⟩
      · obtain ⟨s2, e2, f2, g4⟩ := fl
        rw [if_neg c, if_neg (show ¬ (0 ≤ nu tp q ∧ nu tp q ≤ (n : Int) - 1) by omega)]
        exact Or.inl ⟨_, s2, rfl, e2, f2, g4⟩
  · obtain ⟨s1, e1, f1, g1⟩ := ht.2.2 k2
    rw [if_neg k2, e1, Option.bind_some]
    exact Or.inl ⟨_, s1, rfl, if_pos rfl, f1, g1⟩
/-! names -/
theorem nmX_g {q j : Nat} (h : q ≤ tp.length) (hj : j < 6) (h6 : le tp q - q ≤ 6) : (nmX tp q).getD j 0 = if q + j < le tp q then ch tp (q + j) - 96 else 0 := by
  have hr := ru_p (p := isLt) (tp := tp) (i := q) h
  have hle : le tp q = ru isLt tp q := rfl
  have hl : (nmX tp q).length = le tp q - q := by
    unfold nmX
    rw [List.length_map, slc_l (by omega) (by omega)]
  rw [List.getD_eq_getElem?_getD]
  by_cases c : q + j < le tp q
  · rw [if_pos c, List.getElem?_eq_getElem (by omega)]
    unfold nmX slc
    rw [Option.getD_some, List.getElem_map, List.getElem_take, List.getElem_drop, ch_i (by omega)]
    unfold tg
    rw [List.getD_eq_getElem?_getD, List.getElem?_eq_getElem (by omega)]
    rfl
  · rw [if_neg c, List.getElem?_eq_none (by omega)]; rfl
theorem nm_eq {a b : List Int} (ha : a.length ≤ 6) (hb : b.length ≤ 6) (ha0 : ∀ x ∈ a, 1 ≤ x) (hb0 : ∀ x ∈ b, 1 ≤ x) (h : ∀ k, k < 6 → a.getD k 0 = b.getD k 0) : a = b := by
  have key : ∀ {c d : List Int}, (∀ x ∈ c, 1 ≤ x) → c.length ≤ 6 → (∀ k, k < 6 → c.getD k 0 = d.getD k 0) → c.length ≤ d.length := fun {c d} hc hl h => by
    rcases Nat.lt_or_ge d.length c.length with e | e
    · exfalso
      have h1 := h d.length (by omega)
      rw [List.getD_eq_getElem?_getD, List.getD_eq_getElem?_getD, List.getElem?_eq_getElem e, List.getElem?_eq_none (Nat.le_refl _)] at h1
      have h2 := hc _ (List.getElem_mem e)
      simp only [Option.getD_some, Option.getD_none] at h1
      omega
    · exact e
  have h1 := key ha0 ha h
  have h2 := key hb0 hb (fun k hk => (h k hk).symm)
  apply List.ext_getElem (by omega)
  intro i hi1 hi2
  have := h i (by omega)
  rw [List.getD_eq_getElem?_getD, List.getD_eq_getElem?_getD, List.getElem?_eq_getElem hi1, List.getElem?_eq_getElem hi2] at this
  exact this
/-- the names in the draft -/
def XNm (s : Mem) (o : Nat) (j : Nat) (nm : List Int) : Prop := ∀ k, k < 6 → rI s (o + 1) (6 * j + k) = nm.getD k 0
theorem w6 {j k : Nat} (hj : j < 7) (hk : k < 6) : w32 ((w32 ((j : Int) * 6)) + (k : Int)) = ((6 * j + k : Nat) : Int) := by
  rw [w32_i (z := (j : Int) * 6) (by omega) (by omega), w32_i (by omega) (by omega)]; omega
theorem x_alike1 (D : Nat) {s : Mem} {o i j : Nat} (hi : i < 7) (hj : j < 7) (h : ∀ n, n < 6 → rI s (o + 1) (6 * i + n) = rI s (o + 1) (6 * j + n)) : ∀ m k : Nat, k + m = 6 → L_Rd_areNamesAlike_2 D o (i : Int) (j : Int) (k : Int) s = some (1, s)
  | 0, k, hk => by
    rw [e_Rd_areNamesAlike_2, if_neg (by omega)]
  | m + 1, k, hk => by
    rw [e_Rd_areNamesAlike_2, if_pos (by omega), w6 hi (by omega), w6 hj (by omega), inB_n (by omega), inB_n (by omega), Int.toNat_natCast, Int.toNat_natCast, w32_s (by omega), if_pos (h k (by omega))]
    exact x_alike1 D hi hj h m (k + 1) (by omega)
theorem x_alike0 (D : Nat) {s : Mem} {o i j : Nat} (hi : i < 7) (hj : j < 7) : ∀ m k : Nat, k + m = 6 → (∃ n, k ≤ n ∧ n < 6 ∧ rI s (o + 1) (6 * i + n) ≠ rI s (o + 1) (6 * j + n)) → L_Rd_areNamesAlike_2 D o (i : Int) (j : Int) (k : Int) s = some (0, s)
  | 0, k, hk, ⟨n, h1, h2, _⟩ => by omega
  | m + 1, k, hk, ⟨n, h1, h2, h3⟩ => by
    rw [e_Rd_areNamesAlike_2, if_pos (by omega), w6 hi (by omega), w6 hj (by omega), inB_n (by omega), inB_n (by omega), Int.toNat_natCast, Int.toNat_natCast, w32_s (by omega)]
    by_cases c : rI s (o + 1) (6 * i + k) = rI s (o + 1) (6 * j + k)
    · rw [if_pos c]
      refine x_alike0 D hi hj m (k + 1) (by omega) ⟨n, ?_, h2, h3⟩
      rcases Nat.eq_or_lt_of_le h1 with e | e
      · rw [← e] at h3; exact absurd c h3
      · exact e
    · rw [if_neg c]
theorem x_nm63 (D : Nat) {q o g : Nat} (hg : g < 7) (ho : o = 6 ∨ o = 17) (h1 : kd tp q = 1) (h6 : le tp q - q ≤ 6) : ∀ (m k : Nat) (s : Mem), k + m = 6 → XS s tp q → (∀ n, n < k → rI s (o + 1) (6 * g + n) = (nmX tp q).getD n 0) → ∃ s1, L_Rd_readName_63 (D + 1) o (g : Int) (k : Int) s = L_Rd_readName_127 (D + 1) o (g : Int) 0 s1 ∧ Fr (fun a i => a = o + 1 ∧ 6 * g ≤ i ∧ i < 6 * g + 6) s s1 ∧ XS s1 tp q ∧ XNm s1 o g (nmX tp q)
  | 0, k, s, hk, h, hn => by
    rw [e_Rd_readName_63, if_neg (by omega)]
    exact ⟨s, rfl, Fr.rf, h, fun n hn2 => hn n (by omega)⟩
  | m + 1, k, s, hk, h, hn => by
    have hl := h.1.2.1
    have hq := h.2.2.2
    have hr := ru_p (p := isLt) (tp := tp) (i := q) hq
    have hle : le tp q = ru isLt tp q := rfl
    have hen : en tp q = le tp q := by unfold en; rw [h1]; rfl
    have hg2 := nmX_g (tp := tp) (q := q) (j := k) hq (by omega) h6
    have go : ∀ v : Int, v = (nmX tp q).getD k 0 → ∃ s1, L_Rd_readName_104 (D + 1) o (g : Int) (k : Int) v s = L_Rd_readName_127 (D + 1) o (g : Int) 0 s1 ∧ Fr (fun a i => a = o + 1 ∧ 6 * g ≤ i ∧ i < 6 * g + 6) s s1 ∧ XS s1 tp q ∧ XNm s1 o g (nmX tp q) := fun v hv => by
      have f1 : Fr (fun a i => a = o + 1 ∧ 6 * g ≤ i ∧ i < 6 * g + 6) s (wI s (o + 1) (6 * g + k) v) := Fr.rf.w ⟨rfl, by omega, by omega⟩
      obtain ⟨s1, e1, f2, g1, g2⟩ := x_nm63 D hg ho h1 h6 m (k + 1) (wI s (o + 1) (6 * g + k) v) (by omega) (h.fr f1 (fun a i q => by omega)) (fun n hn2 => by
        by_cases c : n = k
        · rw [c, rI_same, hv]
        · rw [rI_other _ _ _ _ (by omega)]; exact hn n (by omega))
      rw [e_Rd_readName_104, w6 hg (by omega), inB_n (by omega), Int.toNat_natCast, w32_s (by omega)]
      exact ⟨s1, e1, f1.tr f2, g1, g2⟩
    rw [e_Rd_readName_63, if_pos (by omega), h.2.1.1, h.2.1.2.1, hen, w32_i (by omega) (by omega)]
    by_cases c : q + k < le tp q
    · rw [if_pos (by omega), show (q : Int) + (k : Int) = ((q + k : Nat) : Int) by omega, x_at D h.1, Option.bind_some]
      simp only []
      have hc := hr.2.2.2 (q + k) (by omega) (by omega)
      unfold isLt at hc
      rw [Bool.and_eq_true, decide_eq_true_iff, decide_eq_true_iff] at hc
      rw [w32_i (z := ch tp (q + k) - 97) (by omega) (by omega), w32_i (by omega) (by omega)]
      exact go _ (by rw [hg2, if_pos c]; omega)
    · rw [if_neg (by omega)]
      exact go 0 (by rw [hg2, if_neg c])
end XSTAT
