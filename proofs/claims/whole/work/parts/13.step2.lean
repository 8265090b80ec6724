section STEP2
variable {p : Program} {l : Launch} {e : Env} {R : Room} {s : State} {m : MethodId} {args : Array Value} {below : List Frame} {meth : Method} {c : Code} {w rt ml : Nat} {cc : ByteArray} {Dg : va_G} {cA : Nat → ClassId} {B : BS} {scr : Prop} {xs : Nat → Int} {L : Nat} {d : Nat} {ph : Bool} {n0 : Nat} {Q : State → Prop} {r : Int × Mem}
theorem cls_at {t : Nat} (h : t < 11) : cls11[t]? = some (nmT t, FT t, NF t) := by
  unfold cls11
  rw [List.getElem?_map, List.getElem?_range h]
  rfl
theorem ad_obj {B : BS} {t n o : Nat} (h : t ≠ 23 ∧ t ≠ 24) : adV B (vr t n o) = .ref (B.1 + o) := by
  unfold adV
  simp only []
  rw [if_neg h.1, if_neg h.2]
theorem okV_obj {scr : Prop} {σ : Mem} {t n o : Nat} (h : okV scr σ (vr t n o)) (ht : t ≠ 23 ∧ t ≠ 24) : o < rN σ ∧ nthL layL o = some (t, n) := by
  rcases h with h | h | h
  · exact absurd h.1 ht.1
  · exact absurd h ht.2
  · exact h
theorem cellE_obj {cA : Nat → ClassId} {base : Nat} {σ : Mem} {o t n : Nat} (h : nthL layL o = some (t, n)) (ht : t < 11) : cellE cA base σ o = .inr (t, (List.range (NF t)).map fun k => fvV base t k σ o) := by
  unfold cellE
  rw [h]
  simp only []
  rw [if_pos ht]
theorem lay_tag {o t n : Nat} (h : nthL layL o = some (t, n)) : t ≠ 23 ∧ t ≠ 24 := by
  have := (lay_sz h).2
  simp only [] at this
  omega
theorem kdO_obj {o t n k : Nat} (h : nthL layL o = some (t, n)) (ht : t < 11) : kdO o k = (fkT t k).1 := by
  unfold kdO
  rw [h]
  simp only []
  rw [if_pos ht]
theorem getF_ok {σ : Mem} (hM : okM ph σ) {o t n f : Nat} (ho : o < rN σ) (hl : nthL layL o = some (t, n)) (ht : t < 11) (hf : f < NF t) : adV B (getF ph (fkT t f) σ o f) = fvV B.1 t f σ o ∧ okV scr σ (getF ph (fkT t f) σ o f) := by
  have h1 := hM.2.1 o f
  have hP := hM.2.2.1 o f
  have hS := hM.2.2.2.2
  have hfk := fk_ok t ht f hf
  rw [kdO_obj hl ht] at h1
  have e : ∃ kd tg ln a b, fkT t f = (kd, tg, ln, a, b) := ⟨_, _, _, _, _, rfl⟩
  obtain ⟨kd, tg, ln, a, b, e⟩ := e
  have hT : kd = 3 ∨ kd = 4 → tgO o f = some (tg, ln) := by
    intro hk
    unfold tgO
    rw [hl]
    simp only []
    rw [if_pos ht, e]
    rcases hk with rfl | rfl <;> rfl
  have hs : ph = true → sOk o t f (rP σ o f) := fun q => ((hS q).2 o t n hl).1 ht f hf
  unfold sOk at hs
  unfold fkOk at hfk
  unfold fvV
  rw [e] at h1 hs hfk ⊢
  have ref : ∀ a', rP σ o f = a' + 1 → kd = 3 ∨ kd = 4 → a' < rN σ ∧ nthL layL a' = some (tg, ln) := by
    intro a' e1 hk
    rcases hP tg ln (hT hk) with q | q
    · rw [e1] at q; cases q
    · rw [e1] at q; exact q
  match kd, h1, hs, hfk, ref with
  | 0, h1, _, _, _ => exact ⟨rfl, h1⟩
  | 1, h1, _, _, _ => exact ⟨rfl, h1⟩
  | 2, h1, _, _, _ => exact ⟨rfl, by show rng32 _; have h1 : rI σ o f = 0 ∨ rI σ o f = 1 := h1; unfold rng32; omega⟩
  | 3, _, hs, _, ref =>
    cases ph with
    | true =>
      have h0 : rP σ o f ≠ 0 := hs rfl
      obtain ⟨a', e1⟩ := Nat.exists_eq_succ_of_ne_zero h0
      have g := ref a' e1 (Or.inl rfl)
      have eq : rQ σ o f = a' := by show rP σ o f - 1 = a'; rw [e1]; rfl
      have eg : getF true (3, tg, ln, a, b) σ o f = vr tg ln a' := by show vr tg ln (rQ σ o f) = _; rw [eq]
      rw [eg, ad_obj (lay_tag g.2)]
      simp only []
      rw [e1]
      exact ⟨rfl, Or.inr (Or.inr g)⟩
    | false =>
      cases e1 : rP σ o f with
      | zero =>
        have eg : getF false (3, tg, ln, a, b) σ o f = vn := by simp only [getF, e1, cond_false]
        rw [eg]
        exact ⟨rfl, trivial⟩
      | succ a' =>
        have g := ref a' e1 (Or.inl rfl)
        have eg : getF false (3, tg, ln, a, b) σ o f = vr tg ln a' := by simp only [getF, e1, cond_false]
        rw [eg, ad_obj (lay_tag g.2)]
        exact ⟨rfl, Or.inr (Or.inr g)⟩
  | 4, _, hs, _, ref =>
    cases ph with
    | true =>
      have h0 : rP σ o f = o + a - b + 1 := hs rfl
      have g := ref (o + a - b) h0 (Or.inr rfl)
      have eg : getF true (4, tg, ln, a, b) σ o f = vr tg ln (o + a - b) := rfl
      rw [eg, ad_obj (lay_tag g.2)]
      simp only []
      rw [h0]
      exact ⟨rfl, Or.inr (Or.inr g)⟩
    | false =>
      cases e1 : rP σ o f with
      | zero =>
        have eg : getF false (4, tg, ln, a, b) σ o f = vn := by simp only [getF, e1, cond_false]
        rw [eg]
        exact ⟨rfl, trivial⟩
      | succ a' =>
        have g := ref a' e1 (Or.inr rfl)
        have eg : getF false (4, tg, ln, a, b) σ o f = vr tg ln a' := by simp only [getF, e1, cond_false]
        rw [eg, ad_obj (lay_tag g.2)]
        exact ⟨rfl, Or.inr (Or.inr g)⟩
  | kd + 5, _, _, hfk, _ => exact absurd hfk (by simp)
theorem fs_get {base t n : Nat} {σ : Mem} {o f : Nat} (h : f < n) : ((List.range n).map fun k => fvV base t k σ o)[f]? = some (fvV base t f σ o) := by
  rw [List.getElem?_map, List.getElem?_range h]
  rfl
theorem k_getfield (C0 : CX p s m args meth c w rt ml cc Dg cA B scr xs L R d n0 r) {pc : Nat} {ls : Lc} {st : List AV} {σ : Mem} {k f t n o : Nat} (hd : decode cc pc = .ok (.getfield k, 3)) (hf : fldT w k = some (t, f)) (hk : AK p l e R s m args below meth c ml Dg cA B scr ph n0 Q r (pc + 3) ls (getF ph (fkT t f) σ o f :: st) σ) : AK p l e R s m args below meth c ml Dg cA B scr ph n0 Q r pc ls (vr t n o :: st) σ := by
  obtain ⟨hx, hb, hml, hown, hts, hK, hlocks, hrt, hini, hbs, hscr, hstr, hfr, hlo, hcl, hsl⟩ := C0
  refine ⟨hk.1, fun H locs lsR hn rel => ?_⟩
  obtain ⟨gl, gt, gf, gd⟩ := gf_of hf
  simp only [] at gl gt gf gd
  obtain ⟨g1, g2⟩ := List.forall_mem_cons.mp rel.top
  have htt : t ≠ 23 ∧ t ≠ 24 := by omega
  obtain ⟨ho, hl⟩ := okV_obj g1 htt
  obtain ⟨e1, e2⟩ := getF_ok (B := B) (scr := scr) rel.2.1 ho hl gt gf
  have kk := hk.2 H locs lsR hn (rel.stk (List.forall_mem_cons.mpr ⟨e2, g2⟩))
  rw [List.map_cons, e1] at kk
  rw [List.map_cons, ad_obj htt]
  exact va_get hx hb hts (in_ok t gt) hown hK rel.1 o (by rw [wsE_at ho, cellE_obj hl gt]) (cls_at gt) f gf (hts _ gl) (fun x hx => by rw [gd] at hx; exact hx) (fs_get gf) hd kk
/-- the cells behind a number that is put -/
theorem put_cells {base : Nat} {σ : Mem} {o t n f : Nat} {v : Int} {x : Value} (hl : nthL layL o = some (t, n)) (ht : t < 11) (hf : f < NF t) (hx : fvV base t f (wI σ o f v) o = x) : (wsE cA base σ).set o (base + o, .inr (t, ((List.range (NF t)).map fun k => fvV base t k σ o).set f x)) = wsE cA base (wI σ o f v) := by
  refine wsE_set rfl (fun a ha => ⟨fun k => by rw [rI_wI, if_neg (fun q => ha q.1)], fun k => rfl⟩) ?_
  rw [cellE_obj hl ht]
  congr 2
  apply List.ext_getElem?
  intro i
  by_cases hi : i = f
  · subst hi
    rw [List.getElem?_set_self (by simpa using hf), fs_get hf, hx]
  · rw [List.getElem?_set_ne (Ne.symm hi)]
    by_cases hin : i < NF t
    · rw [fs_get hin, fs_get hin]
      unfold fvV
      rw [rI_wI, if_neg (fun q => hi q.2), rP_wI]
    · rw [List.getElem?_eq_none (by simp; omega), List.getElem?_eq_none (by simp; omega)]
theorem putQ_cells {base : Nat} {σ : Mem} {o t n f v : Nat} {x : Value} (hl : nthL layL o = some (t, n)) (ht : t < 11) (hf : f < NF t) (hx : fvV base t f (wQ σ o f v) o = x) : (wsE cA base σ).set o (base + o, .inr (t, ((List.range (NF t)).map fun k => fvV base t k σ o).set f x)) = wsE cA base (wQ σ o f v) := by
  refine wsE_set rfl (fun a ha => ⟨fun k => rfl, fun k => by rw [rP_wQ, if_neg (fun q => ha q.1)]⟩) ?_
  rw [cellE_obj hl ht]
  congr 2
  apply List.ext_getElem?
  intro i
  by_cases hi : i = f
  · subst hi
    rw [List.getElem?_set_self (by simpa using hf), fs_get hf, hx]
  · rw [List.getElem?_set_ne (Ne.symm hi)]
    by_cases hin : i < NF t
    · rw [fs_get hin, fs_get hin]
      unfold fvV
      rw [rP_wQ, if_neg (fun q => hi q.2), rI_wQ]
    · rw [List.getElem?_eq_none (by simp; omega), List.getElem?_eq_none (by simp; omega)]
theorem okV_mono {σ σ' : Mem} (h : rN σ ≤ rN σ') {v : AV} (hv : okV scr σ v) : okV scr σ' v := by
  rcases v with z | z | _ | ⟨t, n, a⟩
  · exact hv
  · exact hv
  · exact hv
  · rcases hv with q | q | q
    · exact Or.inl q
    · exact Or.inr (Or.inl q)
    · exact Or.inr (Or.inr ⟨Nat.lt_of_lt_of_le q.1 h, q.2⟩)
theorem REL.mem {H0 : Heap} {σ σ' : Mem} {ls : Lc} {st st' : List AV} {H H1 : Heap} {locs locs1 : List Loc} {lsR : Array Slot} (h : REL ph Dg cA B scr ml H0 σ ls st H locs lsR) (hN : rN σ ≤ rN σ') (hP : va_P Dg cls11 (wsE cA B.1 σ') H1) (hM : okM ph σ') (hS : va_S (fun q => B.1 ≤ q) H0 H1 locs1) (hs : ∀ v ∈ st', okV scr σ' v) : REL ph Dg cA B scr ml H0 σ' ls st' H1 locs1 lsR :=
  ⟨hP, hM, hS, h.2.2.2.1, fun q hq => okV_mono hN (h.2.2.2.2.1 q hq), hs⟩
theorem k_putI (C0 : CX p s m args meth c w rt ml cc Dg cA B scr xs L R d n0 r) {pc : Nat} {ls : Lc} {st : List AV} {σ : Mem} {k f t n o : Nat} {z : Int} (hd : decode cc pc = .ok (.putfield k, 3)) (hf : fldT w k = some (t, f)) (hkd : (fkT t f).1 = 0 ∨ (fkT t f).1 = 2 ∧ (z = 0 ∨ z = 1)) (hk : AK p l e R s m args below meth c ml Dg cA B scr ph n0 Q r (pc + 3) ls st (wI σ o f z)) : AK p l e R s m args below meth c ml Dg cA B scr ph n0 Q r pc ls (.inl z :: vr t n o :: st) σ := by
  obtain ⟨hx, hb, hml, hown, hts, hK, hlocks, hrt, hini, hbs, hscr, hstr, hfr, hlo, hcl, hsl⟩ := C0
  refine ⟨hk.1, fun H locs lsR hn rel => ?_⟩
  obtain ⟨gl, gt, gf, gd⟩ := gf_of hf
  simp only [] at gl gt gf gd
  obtain ⟨g0, g1⟩ := List.forall_mem_cons.mp rel.top
  obtain ⟨g1, g2⟩ := List.forall_mem_cons.mp g1
  have htt : t ≠ 23 ∧ t ≠ 24 := by omega
  obtain ⟨ho, hl⟩ := okV_obj g1 htt
  rw [List.map_cons, List.map_cons, ad_obj htt]
  have e : ∃ kd tg ln a b, fkT t f = (kd, tg, ln, a, b) := ⟨_, _, _, _, _, rfl⟩
  obtain ⟨kd, tg, ln, a, b, e⟩ := e
  have hfk := fk_ok t gt f gf
  unfold fkOk at hfk
  rw [e] at hfk hkd
  have hkr : kdR (kdO o f) z := by
    rw [kdO_obj hl gt, e]
    rcases hkd with q | ⟨q, q2⟩
    · simp only [] at q; subst q; exact g0
    · simp only [] at q; subst q; exact q2
  have hv : fvV B.1 t f (wI σ o f z) o = .int (Int32.ofInt z) := by
    unfold fvV
    rw [e, rI_wI, if_pos ⟨rfl, rfl⟩]
    rcases hkd with q | ⟨q, q2⟩ <;> (simp only [] at q; subst q; rfl)
  have hty : ∃ ty, tyF t f = ty ∧ narrow ty (.int (Int32.ofInt z)) = .int (Int32.ofInt z) ∧ fits ty (.int (Int32.ofInt z)) = true ∧ (FT t f).2.2.2 = false := by
    rcases hkd with q | ⟨q, q2⟩
    · simp only [] at q; subst q
      simp only [Bool.and_eq_true, decide_eq_true_eq, Bool.not_eq_true'] at hfk
      exact ⟨_, rfl, by rw [hfk.1]; rfl, by rw [hfk.1]; rfl, hfk.2⟩
    · simp only [] at q; subst q
      simp only [Bool.and_eq_true, decide_eq_true_eq, Bool.not_eq_true'] at hfk
      exact ⟨_, rfl, by rw [hfk.1]; rcases q2 with rfl | rfl <;> rfl, by rw [hfk.1]; rcases q2 with rfl | rfl <;> rfl, hfk.2⟩
  obtain ⟨ty, ety, hnar, hfit, hfin⟩ := hty
  refine va_put hx hb hts (in_ok t gt) (tyF t) (ty_ok t gt) (nm_ok t gt) hown hK rel.1 wsE_D rel.2.2.1 o (by rw [wsE_at ho, cellE_obj hl gt]) (cls_at gt) f gf (hts _ gl) (fun x hx => by rw [gd] at hx; exact hx) hfin (ty := ty) (v := .int (Int32.ofInt z)) (by rw [← ety]; exact ty_ok t gt f gf) hnar hfit (by simpa using gf) hd (fun H1 locs1 hP hD hS => ?_)
  rw [put_cells hl gt gf hv] at hP
  exact hk.2 H1 locs1 lsR hn (rel.mem (Nat.le_refl _) hP (okM_wI rel.2.1 hkr ho) hS g2)
theorem k_putL (C0 : CX p s m args meth c w rt ml cc Dg cA B scr xs L R d n0 r) {pc : Nat} {ls : Lc} {st : List AV} {σ : Mem} {k f t n o : Nat} {z : Int} (hd : decode cc pc = .ok (.putfield k, 3)) (hf : fldT w k = some (t, f)) (hkd : (fkT t f).1 = 1) (hk : AK p l e R s m args below meth c ml Dg cA B scr ph n0 Q r (pc + 3) ls st (wI σ o f z)) : AK p l e R s m args below meth c ml Dg cA B scr ph n0 Q r pc ls (vl z :: vr t n o :: st) σ := by
  obtain ⟨hx, hb, hml, hown, hts, hK, hlocks, hrt, hini, hbs, hscr, hstr, hfr, hlo, hcl, hsl⟩ := C0
  refine ⟨hk.1, fun H locs lsR hn rel => ?_⟩
  obtain ⟨gl, gt, gf, gd⟩ := gf_of hf
  simp only [] at gl gt gf gd
  obtain ⟨g0, g1⟩ := List.forall_mem_cons.mp rel.top
  obtain ⟨g1, g2⟩ := List.forall_mem_cons.mp g1
  have htt : t ≠ 23 ∧ t ≠ 24 := by omega
  obtain ⟨ho, hl⟩ := okV_obj g1 htt
  rw [List.map_cons, List.map_cons, ad_obj htt]
  have e : ∃ kd tg ln a b, fkT t f = (kd, tg, ln, a, b) := ⟨_, _, _, _, _, rfl⟩
  obtain ⟨kd, tg, ln, a, b, e⟩ := e
  have hfk := fk_ok t gt f gf
  unfold fkOk at hfk
  rw [e] at hfk hkd
  simp only [] at hkd
  subst hkd
  simp only [Bool.and_eq_true, decide_eq_true_eq, Bool.not_eq_true'] at hfk
  have hkr : kdR (kdO o f) z := by rw [kdO_obj hl gt, e]; exact g0
  have hv : fvV B.1 t f (wI σ o f z) o = .long (Int64.ofInt z) := by
    unfold fvV
    rw [e, rI_wI, if_pos ⟨rfl, rfl⟩] <;> rfl
  refine va_put hx hb hts (in_ok t gt) (tyF t) (ty_ok t gt) (nm_ok t gt) hown hK rel.1 wsE_D rel.2.2.1 o (by rw [wsE_at ho, cellE_obj hl gt]) (cls_at gt) f gf (hts _ gl) (fun x hx => by rw [gd] at hx; exact hx) hfk.2 (ty := .long) (v := .long (Int64.ofInt z)) (by rw [← hfk.1]; exact ty_ok t gt f gf) rfl rfl (by simpa using gf) hd (fun H1 locs1 hP hD hS => ?_)
  rw [put_cells hl gt gf hv] at hP
  exact hk.2 H1 locs1 lsR hn (rel.mem (Nat.le_refl _) hP (okM_wI rel.2.1 hkr ho) hS g2)
theorem k_putA (C0 : CX p s m args meth c w rt ml cc Dg cA B scr xs L R d n0 r) {pc : Nat} {ls : Lc} {st : List AV} {σ : Mem} {k f t n o a t' n' x y : Nat} (hd : decode cc pc = .ok (.putfield k, 3)) (hf : fldT w k = some (t, f)) (eF : fkT t f = (3, t', n', x, y)) (hk : AK p l e R s m args below meth c ml Dg cA B scr ph n0 Q r (pc + 3) ls st (wQ σ o f a)) : AK p l e R s m args below meth c ml Dg cA B scr ph n0 Q r pc ls (vr t' n' a :: vr t n o :: st) σ := by
  obtain ⟨hx, hb, hml, hown, hts, hK, hlocks, hrt, hini, hbs, hscr, hstr, hfr, hlo, hcl, hsl⟩ := C0
  refine ⟨hk.1, fun H locs lsR hn rel => ?_⟩
  obtain ⟨gl, gt, gf, gd⟩ := gf_of hf
  simp only [] at gl gt gf gd
  obtain ⟨g0, g1⟩ := List.forall_mem_cons.mp rel.top
  obtain ⟨g1, g2⟩ := List.forall_mem_cons.mp g1
  have htt : t ≠ 23 ∧ t ≠ 24 := by omega
  obtain ⟨ho, hl⟩ := okV_obj g1 htt
  have hfk := fk_ok t gt f gf
  unfold fkOk at hfk
  rw [eF] at hfk
  simp only [Bool.and_eq_true, decide_eq_true_eq, Bool.not_eq_true'] at hfk
  have ht' : t' < 11 := Nat.le_of_ble_eq_true hfk.2.2
  have ht2 : t' ≠ 23 ∧ t' ≠ 24 := by omega
  obtain ⟨ha, hla⟩ := okV_obj g0 ht2
  rw [List.map_cons, List.map_cons, ad_obj htt, ad_obj ht2]
  have hv : fvV B.1 t f (wQ σ o f a) o = .ref (B.1 + a) := by
    unfold fvV
    rw [eF, rP_wQ, if_pos ⟨rfl, rfl⟩] <;> rfl
  have htg : tgO o f = some (t', n') := by
    unfold tgO
    rw [hl]
    simp only []
    rw [if_pos gt, eF] <;> rfl
  refine va_put hx hb hts (in_ok t gt) (tyF t) (ty_ok t gt) (nm_ok t gt) hown hK rel.1 wsE_D rel.2.2.1 o (by rw [wsE_at ho, cellE_obj hl gt]) (cls_at gt) f gf (hts _ gl) (fun x hx => by rw [gd] at hx; exact hx) hfk.2.1 (ty := .object (nmT t')) (v := .ref (B.1 + a)) (by rw [← hfk.1]; exact ty_ok t gt f gf) rfl rfl (by simpa using gf) hd (fun H1 locs1 hP hD hS => ?_)
  rw [putQ_cells hl gt gf hv] at hP
  exact hk.2 H1 locs1 lsR hn (rel.mem (Nat.le_refl _) hP (okM_wQ rel.2.1 htg ho ha hla (fun _ q hq => by rw [hl] at hq; cases hq; exact ⟨gt, by rw [eF]⟩)) hS g2)
theorem k_putE (C0 : CX p s m args meth c w rt ml cc Dg cA B scr xs L R d n0 r) {pc : Nat} {ls : Lc} {st : List AV} {σ : Mem} {k f t n o a t' n' x y : Nat} (hd : decode cc pc = .ok (.putfield k, 3)) (hf : fldT w k = some (t, f)) (eF : fkT t f = (4, t', n', x, y)) (hrt4 : rt = 4) (htw : t = w) (hph : ph = false) (hk : AK p l e R s m args below meth c ml Dg cA B scr ph n0 Q r (pc + 3) ls st (wQ σ o f a)) : AK p l e R s m args below meth c ml Dg cA B scr ph n0 Q r pc ls (vr t' n' a :: vr t n o :: st) σ := by
  obtain ⟨hx, hb, hml, hown, hts, hK, hlocks, hrt, hini, hbs, hscr, hstr, hfr, hlo, hcl, hsl⟩ := C0
  refine ⟨hk.1, fun H locs lsR hn rel => ?_⟩
  obtain ⟨gl, gt, gf, gd⟩ := gf_of hf
  simp only [] at gl gt gf gd
  obtain ⟨g0, g1⟩ := List.forall_mem_cons.mp rel.top
  obtain ⟨g1, g2⟩ := List.forall_mem_cons.mp g1
  have htt : t ≠ 23 ∧ t ≠ 24 := by omega
  obtain ⟨ho, hl⟩ := okV_obj g1 htt
  have hfk := fk_ok t gt f gf
  unfold fkOk at hfk
  rw [eF] at hfk
  simp only [Bool.and_eq_true] at hfk
  have hty : ∃ ty, tyF t f = ty ∧ narrow ty (.ref (B.1 + a)) = .ref (B.1 + a) ∧ fits ty (.ref (B.1 + a)) = true := by
    have h1 := hfk.1
    cases hc : Nat.blt t' 11 with
    | true => rw [hc, cond_true, decide_eq_true_eq] at h1; exact ⟨_, rfl, by rw [h1]; rfl, by rw [h1]; rfl⟩
    | false => rw [hc, cond_false, decide_eq_true_eq] at h1; exact ⟨_, rfl, by rw [h1]; rfl, by rw [h1]; rfl⟩
  obtain ⟨ty, ety, hnar, hfit⟩ := hty
  have hv : fvV B.1 t f (wQ σ o f a) o = .ref (B.1 + a) := by
    unfold fvV
    rw [eF, rP_wQ, if_pos ⟨rfl, rfl⟩] <;> rfl
  have htg : tgO o f = some (t', n') := by
    unfold tgO
    rw [hl]
    simp only []
    rw [if_pos gt, eF] <;> rfl
  by_cases ht2 : t' ≠ 23 ∧ t' ≠ 24
  · obtain ⟨ha, hla⟩ := okV_obj g0 ht2
    rw [List.map_cons, List.map_cons, ad_obj htt, ad_obj ht2]
    refine va_putF hx hb hts (in_ok t gt) (tyF t) (ty_ok t gt) (nm_ok t gt) hown hK rel.1 wsE_D rel.2.2.1 o (by rw [wsE_at ho, cellE_obj hl gt]) (cls_at gt) f gf (hts _ gl) (fun x hx => by rw [gd] at hx; exact hx) hfk.2 (hini hrt4) (by rw [gd, htw]) (ty := ty) (v := .ref (B.1 + a)) (by rw [← ety]; exact ty_ok t gt f gf) hnar hfit (by simpa using gf) hd (fun H1 locs1 hP hD hS => ?_)
    rw [putQ_cells hl gt gf hv] at hP
    exact hk.2 H1 locs1 lsR hn (rel.mem (Nat.le_refl _) hP (okM_wQ rel.2.1 htg ho ha hla (fun q => by rw [hph] at q; cases q)) hS g2)
  · exfalso
    have hq : ∀ t, t < 11 → ∀ k, k < NF t → (fkT t k).1 = 4 → (fkT t k).2.1 ≠ 23 ∧ (fkT t k).2.1 ≠ 24 := by decide +kernel
    have := hq t gt f gf (by rw [eF])
    rw [eF] at this
    exact ht2 this
end STEP2
