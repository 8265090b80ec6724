section MULTI
variable {p : Program} {l : Launch} {e : Env} {R : Room} {s : State} {m : MethodId} {args : Array Value} {below : List Frame} {meth : Method} {c : Code} {w rt ml : Nat} {cc : ByteArray} {Dg : va_G} {cA : Nat → ClassId} {B : BS} {scr : Prop} {xs : Nat → Int} {L : Nat} {d : Nat} {ph : Bool} {n0 : Nat} {Q : State → Prop} {r : Int × Mem}
theorem allB_at {n : Nat} {f : Nat → Bool} (h : allB n f = true) {i : Nat} (hi : i < n) : f i = true := by
  induction n with
  | zero => omega
  | succ n ih =>
    unfold allB at h
    simp only [Bool.and_eq_true] at h
    rcases Nat.lt_or_ge i n with q | q
    · exact ih h.2 q
    · have : i = n := by omega
      rw [this]; exact h.1
theorem slN_rows {o b : Nat} : ∀ (n : Nat), (∀ i, i < n → nthL layL (o + i) = some (20, b)) → slN (o + n) = slN o + n * b
  | 0, _ => by simp
  | n + 1, h => by
    have ih := slN_rows n (fun i hi => h i (by omega))
    show slN (o + n) + szO (o + n) = _
    have : szO (o + n) = b := by unfold szO; rw [h n (by omega)]; rfl
    rw [ih, this, Nat.succ_mul, Nat.add_assoc]
/-- several cells, one behind the other -/
theorem wsE_more {base : Nat} {σ σ' : Mem} {n : Nat} (hN : rN σ' = rN σ + n) (ho : ∀ a, a < rN σ → (∀ k, rI σ' a k = rI σ a k) ∧ ∀ k, rP σ' a k = rP σ a k) : wsE cA base σ ++ (List.range n).map (fun i => (base + (rN σ + i), cellE cA base σ' (rN σ + i))) = wsE cA base σ' := by
  unfold wsE
  rw [hN, List.range_add, List.map_append, List.map_map]
  congr 1
  apply List.map_congr_left
  intro a ha
  have hl := List.mem_range.mp ha
  rw [cellE_same (ho a hl).1 (ho a hl).2]
theorem lay_rows {o t n : Nat} (h : nthL layL o = some (t, n)) {i : Nat} (hi : innT t = some i) {k : Nat} (hk : k < n) : nthL layL (o + 1 + k) = some (20, i) := by
  have key : (List.range 159).all (fun o => match nthL layL o with
    | some q => (match innT q.1 with
      | some i => allB q.2 (fun k => cellAt (o + 1 + k) 20 i)
      | none => true)
    | none => true) = true := by decide +kernel
  have h1 := List.all_eq_true.mp key o (List.mem_range.mpr (lay_len h))
  simp only [h, hi] at h1
  exact cellAt_lay (allB_at h1 hk)
theorem lay_ne {o t n : Nat} (h : nthL layL o = some (t, n)) (ht : t = 30 ∨ t = 31) : 0 < n := by
  have h1 := lay_all (P := fun q => !(decide (q.1 = 30 ∨ q.1 = 31)) || decide (0 < q.2)) (by decide +kernel) h
  simp only [ht, decide_true, Bool.not_true, Bool.false_or, decide_eq_true_eq] at h1
  exact h1
theorem rI_wRows (σ : Mem) (o n a b : Nat) : rI (wRows σ o n) a b = rI σ a b := rfl
theorem rP_wRows (σ : Mem) (o n a b : Nat) : rP (wRows σ o n) a b = if a = o ∧ b < n then o + 2 + b else rP σ a b := rfl
theorem rN_wRows (σ : Mem) (o n : Nat) : rN (wRows σ o n) = rN σ + 1 + n := rfl
theorem okM_rows {σ : Mem} {t n : Nat} (h : okM false σ) (hl : nthL layL (rN σ) = some (t, n)) (ht : t = 30 ∨ t = 31) : okM false (wRows σ (rN σ) n) := by
  obtain ⟨h1, h2, h3, h4, h5⟩ := h
  have hn := lay_ne hl ht
  obtain ⟨i, hi⟩ : ∃ i, innT t = some i := by rcases ht with rfl | rfl <;> exact ⟨_, rfl⟩
  refine ⟨?_, h2, fun o k t' n' e => ?_, fun o ho k => ?_, fun q => by cases q⟩
  · rw [rN_wRows]
    have := lay_len (lay_rows hl hi (show n - 1 < n by omega))
    omega
  · rw [rP_wRows, rN_wRows]
    by_cases q : o = rN σ ∧ k < n
    · rw [if_pos q]
      obtain ⟨rfl, hk⟩ := q
      unfold tgO at e
      rw [hl] at e
      simp only [] at e
      rw [if_neg (by omega), hi] at e
      cases e
      refine Or.inr ⟨by omega, ?_⟩
      rw [show rN σ + 2 + k - 1 = rN σ + 1 + k by omega]
      exact lay_rows hl hi hk
    · rw [if_neg q]
      rcases h3 o k t' n' e with g | g
      · exact Or.inl g
      · exact Or.inr ⟨by omega, g.2⟩
  · rw [rN_wRows] at ho
    rw [rI_wRows, rP_wRows, if_neg (by omega)]
    exact h4 o (by omega) k
theorem out_arr (c : ClassId) (N h0 : Nat) : ∀ i : Nat, Jvm.Free.Multi.outerC c N h0 i = arrV c N (fun j => va_rf (if j < i then some (h0 + 1 + j) else none))
  | 0 => by
    show ({ cls := c, slots := Array.replicate N .null, vm := .none } : Cell) = _
    rw [arrV_new]
    refine congrArg (arrV c N) (funext fun j => ?_)
    simp [va_rf]
  | i + 1 => by
    show (Jvm.Free.Multi.outerC c N h0 i).setSlot i (.ref (h0 + 1 + i)) = _
    rw [out_arr c N h0 i, arrV_store]
    refine congrArg (arrV c N) (funext fun j => ?_)
    by_cases e : j = i
    · subst e
      simp [updV, va_rf]
    · by_cases h : j < i
      · simp [updV, e, h, Nat.lt_succ_of_lt h]
      · simp [updV, e, h, show ¬ j < i + 1 by omega]
theorem k_multi (C0 : CX p s m args meth c w rt ml cc Dg cA B scr xs L R d n0 r) {pc : Nat} {ls : Lc} {st : List AV} {σ : Mem} {k t : Nat} {a b : Int} (hd : decode cc pc = .ok (.multianewarray k 2, 4)) (hm : mulT w k = some t) (ha : 0 ≤ a) (hb0 : 0 ≤ b) (hc : rowsAt (rN σ) t a.toNat b.toNat = true) (hph : ph = false) (hk : AK p l e R s m args below meth c ml Dg cA B scr ph n0 Q r (pc + 4) ls (vr t a.toNat (rN σ) :: st) (wRows σ (rN σ) a.toNat)) : AK p l e R s m args below meth c ml Dg cA B scr ph n0 Q r pc ls (.inl b :: .inl a :: st) σ := by
  obtain ⟨hx, hb, hml, hown, hts, hK, hlocks, hrt, hini, hbs, hscr, hstr, hfr, hlo, hcl, hsl⟩ := C0
  have hg : rN σ + 1 + a.toNat ≤ rN r.2 := hk.1
  refine ⟨by omega, fun H locs lsR hn rel => ?_⟩
  refine W_hsz hbs hn rel.2.2.1 rel.1 fun hsz => ?_
  obtain ⟨gb, g1⟩ := List.forall_mem_cons.mp rel.top
  obtain ⟨ga, g2⟩ := List.forall_mem_cons.mp g1
  unfold rowsAt at hc
  simp only [Bool.and_eq_true] at hc
  have hl := cellAt_lay hc.1
  have hr : ∀ i, i < a.toNat → nthL layL (rN σ + 1 + i) = some (20, b.toNat) := fun i hi => cellAt_lay (allB_at hc.2 hi)
  obtain ⟨hcl2, ht⟩ := mu_of hm
  have hls := (lay_sz hl).1
  have ha0 := lay_ne hl ht
  have hrs := (lay_sz (hr 0 ha0)).1
  simp only [] at hls hrs
  have hsz1 : szO (rN σ) = a.toNat := by
    unfold szO
    rw [hl]
    simp only []
    rw [if_neg (by omega)]
  have hm1 : slN (rN σ + 1 + a.toNat) ≤ slN (rN r.2) := slN_mono hg
  have hm0 : slN n0 ≤ slN (rN σ) := slN_mono hn
  have hst1 : slN (rN σ + 1) = slN (rN σ) + a.toNat := by show slN (rN σ) + szO (rN σ) = _; rw [hsz1]
  have hst : slN (rN σ + 1 + a.toNat) = slN (rN σ) + a.toNat + a.toNat * b.toNat := by rw [slN_rows a.toNat hr, hst1]
  have hNa := cl_of ha ga
  have hNb := cl_of hb0 gb
  have hZ := rel.2.1.2.2.2.1
  have hover : (Cond.arrayOver (.array .int)).before args s = true := hstr.2.2.1
  intro T hT Xs
  obtain ⟨vm₁, cA', comp, -, fA, fC, hO, -, X', step⟩ := Xs.multianewarray2F (ty := .int) hx hown (hts _ hcl2) hover (hts _ ar_int) (g := F0 m pc lsR (.int (Int32.ofInt b) :: .int (Int32.ofInt a) :: st.map (adV B))) rfl (by rw [hb]; exact hd) rfl (nn_of ga ha) (nn_of gb hb0) (by rw [hNa]; omega) (by rw [hNb]; show b.toNat * 4 ≤ _; omega) (by rw [hNb]; omega) rfl rfl (by rw [hNa]; omega) (by rw [hNa, hNb]; omega)
  rw [hNa, hNb] at X' step
  generalize hF : Jvm.Free.Multi.fill (T.setVm vm₁) cA' comp a.toNat b.toNat (defaultValue .int) a.toNat = F at X' step
  have hTh : (T.setVm vm₁).heap = H := hT
  obtain ⟨f1, f2, -, -⟩ := Jvm.Free.Multi.fill_facts (T.setVm vm₁) cA' comp a.toNat b.toNat (defaultValue .int) a.toNat
  rw [hF, hTh] at f1 f2
  have hold : ∀ x : Nat, x < H.size → F.heap[x]? = H[x]? := fun x hx => by
    have := Jvm.Free.Multi.fill_old (T.setVm vm₁) cA' comp a.toNat b.toNat (defaultValue .int) (a := x) (by rw [hTh]; exact hx) a.toNat
    rw [hF, hTh] at this
    exact this
  have hrow : ∀ j : Nat, j < a.toNat → F.heap[H.size + 1 + j]? = some (Jvm.Free.Multi.innerC comp b.toNat (defaultValue .int)) := fun j hj => by
    have := Jvm.Free.Multi.fill_inner (T.setVm vm₁) cA' comp a.toNat b.toNat (defaultValue .int) a.toNat j hj
    rw [hF, hTh] at this
    exact this
  have hc1 : comp = cA 20 := Option.some.inj (fC.symm.trans (hK.2 0 (cA 20, .int) rfl).2)
  have hc2 : cA' = cA 30 := Option.some.inj (fA.symm.trans (hK.2 3 (cA 30, .array .int) rfl).2)
  have hP1 : va_P Dg cls11 (wsE cA B.1 (wRows σ (rN σ) a.toNat)) F.heap := by
    rw [← wsE_more (cA := cA) (base := B.1) (σ := σ) (σ' := wRows σ (rN σ) a.toNat) (n := 1 + a.toNat) (by rw [rN_wRows]; omega) (fun x hx => ⟨fun _ => rfl, fun k => by rw [rP_wRows, if_neg (by omega)]⟩)]
    refine (rel.1.kept (fun j q hq => hold q.1 ((rel.1 j q hq).lt))).app (fun j q hq => ?_)
    have hj : j < 1 + a.toNat := by
      have h9 := (List.getElem?_eq_some_iff.mp hq).1
      rwa [List.length_map, List.length_range] at h9
    rw [List.getElem?_map, List.getElem?_range hj] at hq
    cases hq
    cases j with
    | zero =>
      have hce : cellE cA B.1 (wRows σ (rN σ) a.toNat) (rN σ + 0) = .inl (cA 30, a.toNat, .inr (.inr (.inr (.inr fun k => pq B.1 (rP (wRows σ (rN σ) a.toNat) (rN σ) k))))) := by
        unfold cellE
        rw [Nat.add_zero, hl]
        simp only []
        rw [if_neg (by omega), if_neg (by omega), if_pos ht]
      show va_at Dg cls11 (B.1 + (rN σ + 0), cellE cA B.1 (wRows σ (rN σ) a.toNat) (rN σ + 0)) F.heap
      rw [hce]
      show F.heap[B.1 + (rN σ + 0)]? = some (vp_cell _ _)
      rw [show B.1 + (rN σ + 0) = H.size by omega, f2, hc2, out_arr, vp_cell_q]
      refine congrArg some (congrArg (arrV (cA 30) a.toNat) (funext fun j => ?_))
      rw [rP_wRows]
      by_cases hj2 : j < a.toNat
      · rw [if_pos hj2, if_pos ⟨rfl, hj2⟩, show rN σ + 2 + j = (rN σ + 1 + j) + 1 by omega]
        show va_rf (some (H.size + 1 + j)) = va_rf (some (B.1 + (rN σ + 1 + j)))
        rw [hsz]
        congr 2
        omega
      · rw [if_neg hj2, if_neg (fun z => hj2 z.2), (hZ (rN σ) (Nat.le_refl _) j).2]
        rfl
    | succ i =>
      have hi : i < a.toNat := by omega
      have hl2 := hr i hi
      show va_at Dg cls11 (B.1 + (rN σ + (i + 1)), cellE cA B.1 (wRows σ (rN σ) a.toNat) (rN σ + (i + 1))) F.heap
      rw [show rN σ + (i + 1) = rN σ + 1 + i by omega, cellE_i hl2 (Or.inl rfl)]
      show F.heap[B.1 + (rN σ + 1 + i)]? = some (vp_cell _ _)
      rw [show B.1 + (rN σ + 1 + i) = H.size + 1 + i by omega, hrow i hi, hc1, vp_cell_i]
      simp only [rI_wRows, (hZ (rN σ + 1 + i) (by omega) _).1]
      rw [show Jvm.Free.Multi.innerC (cA 20) b.toNat (defaultValue FieldType.int) = ({ cls := cA 20, slots := Array.replicate b.toNat (.int 0), vm := .none } : Cell) from rfl, arrV_new]
      rfl
  have kk := hk.2 F.heap locs lsR (show n0 ≤ rN σ + 1 + a.toNat by omega) (rel.mem (show rN σ ≤ rN σ + 1 + a.toNat by omega) hP1 (by rw [hph]; exact okM_rows (by rw [← hph]; exact rel.2.1) hl ht) ⟨Nat.le_trans rel.2.2.1.1 (by omega), fun q h1 h2 => (hold q (by have := rel.2.2.1.1; omega)).trans (rel.2.2.1.2.1 q h1 h2), rel.2.2.1.2.2⟩ (List.forall_mem_cons.mpr ⟨Or.inr (Or.inr ⟨show rN σ < rN σ + 1 + a.toNat by omega, hl⟩), fun v hv => okV_mono (show rN σ ≤ rN σ + 1 + a.toNat by omega) (g2 v hv)⟩))
  rw [List.map_cons, ad_obj (lay_tag hl)] at kk
  have kk2 : W p l e R s m args below meth c F.heap locs (rN σ - n0 + 1 + a.toNat) (slN (rN σ) - slN n0 + a.toNat + a.toNat * b.toNat) Q (F0 m (pc + 4) lsR (.ref (B.1 + rN σ) :: st.map (adV B))) := by
    refine W.cs ?_ ?_ kk
    · show rN σ - n0 + 1 + a.toNat = rN σ + 1 + a.toNat - n0; omega
    · show slN (rN σ) - slN n0 + a.toNat + a.toNat * b.toNat = slN (rN σ + 1 + a.toNat) - slN n0; omega
  obtain ⟨t2, a1, b1⟩ := kk2 F rfl X'
  have hTs : T.heap.size = B.1 + rN σ := by rw [hT]; exact hsz
  rw [hTs] at step
  exact ⟨t2, step t2 a1, b1⟩
end MULTI
