/-! what holds at the law's start -/
section START
theorem st_arr {s : State} {args : Array Value} {ty : FieldType} (h : (Cond.arrayClass ty).before args s = true) : ∃ cA, ArrOfT s cA ty ∧ s.vm.findClass ("[" ++ ty.toString) = some cA := by
  obtain ⟨c, k, comp, h1, h2, h3⟩ := Cond.arrayClass_spec (first := s) (o := none) (idx := []) h
  exact ⟨c, fun n z => ⟨fun k h => (by cases h), k, h2, comp, h3⟩, h1⟩
theorem st_aoa {s : State} {args : Array Value} (h : (Cond.arrayOver (.array .int)).before args s = true) : ∃ cA, ArrOfT s cA (.array .int) ∧ s.vm.findClass ("[" ++ (FieldType.array .int).toString) = some cA := by
  unfold Cond.before Cond.holds at h
  simp only [Cond.value, beq_iff_eq] at h
  cases hc : s.vm.findClass (FieldType.array .int).toString with
  | none => simp [hc] at h
  | some comp =>
    simp only [hc, Option.bind_some, Option.bind_eq_some_iff, Option.map_eq_some_iff] at h
    obtain ⟨c, hi, k, hk, hb⟩ := h
    cases hkd : k.kind with
    | array x ty =>
      rw [hkd] at hb
      simp only [Bool.and_eq_true, decide_eq_true_eq] at hb
      obtain ⟨rfl, hf⟩ := hb
      exact ⟨c, fun n z => ⟨fun k h => (by cases h), k, hk, x, hkd⟩, hf⟩
    | _ => rw [hkd] at hb; cases hb
theorem st_K {s : State} {args : Array Value} (hts : ∀ w ∈ lw_tbl, w.before args s = true) : ∃ (Dg : va_G) (cA : Nat → ClassId), va_K Dg cls11 (tysE cA) s := by
  have hg : ∀ w ∈ lwG, w.before args s = true := fun w hw => hts w (List.mem_filter.mp hw).1
  have hk : ∀ t : Nat, ∃ q : ClassId × (Nat → Nat), t < 11 → u_Kn s (nmT t) (FT t) (NF t) q.1 q.2 := fun t => by
    by_cases h : t < 11
    · obtain ⟨a, b, h3⟩ := u_known (ws := lwG) hg (in_ok t h) (hg _ (inst_ok t h))
      exact ⟨(a, b), fun _ => h3⟩
    · exact ⟨(0, fun _ => 0), fun q => absurd q h⟩
  obtain ⟨f, hf⟩ := Classical.axiomOfChoice hk
  obtain ⟨a, a1, a2⟩ := st_arr (hg _ ar_int)
  obtain ⟨b, b1, b2⟩ := st_arr (hg _ ar_long)
  obtain ⟨c, c1, c2⟩ := st_arr (hg _ ar_char)
  obtain ⟨d, d1, d2⟩ := st_aoa (args := args) (hts _ (List.mem_of_getElem? (i := 429) (by decide +kernel)))
  refine ⟨(fun t => (f t).1, fun t => (f t).2), fun k => if k = 20 then a else if k = 21 then b else if k = 22 then c else d, fun t q hq => ?_, fun k q hq => ?_⟩
  · have hl : t < 11 := by
      have := (List.getElem?_eq_some_iff.mp hq).1
      simpa [cls11] using this
    have e : q = (nmT t, FT t, NF t) := by
      unfold cls11 at hq
      rw [List.getElem?_map, List.getElem?_range hl] at hq
      exact (Option.some.inj hq).symm
    rw [e]
    exact hf t hl
  · match k, hq with
    | 0, hq => cases hq; exact ⟨a1, a2⟩
    | 1, hq => cases hq; exact ⟨b1, b2⟩
    | 2, hq => cases hq; exact ⟨c1, c2⟩
    | 3, hq => cases hq; exact ⟨d1, d2⟩
    | k + 4, hq => cases hq
abbrev stT : Term := .string "TalkCoopers$Reader" 132
set_option maxRecDepth 100000 in
theorem st_el : ((flatC (Jvm.Cond.and given_1 narrow_1)).drop 13) = (List.range 176).map fun j => Cond.eq (.elem (.field stT "java/lang/String" "value" "[B") (.int (Int32.ofNat j))) (.int ((wordsL.map Int32.ofInt).getD j 0)) := by decide +kernel
theorem wordsL_l : wordsL.length = 176 := by decide +kernel
theorem st_S {s : State} {args : Array Value} (hs : ∀ c ∈ flatC (Jvm.Cond.and given_1 narrow_1), c.before args s = true) : ∃ aK aV : Nat, vk_S 1 [wordsL.length] [wordsL.map Int32.ofInt] (fun _ => aK) (fun _ => aV) (fun q => s.heap.size ≤ q) s s.heap ∧ stT.eval args s none [] s = some (.ref aK) := by
  have h0 : ∀ {i : Nat}, i < 1 → i = 0 := fun h => by omega
  obtain ⟨f, g, h1, h2⟩ := vk_Sof (args := args) (s := s) (N := 1) (tm := fun _ => stT) (len := [wordsL.length]) (byt := [wordsL.map Int32.ofInt]) (A := fun q => s.heap.size ≤ q)
    (fun i hi => by rw [h0 hi, wordsL_l]; decide)
    (fun i _ => hs _ (by decide +kernel))
    (fun i _ => hs _ (by decide +kernel))
    (fun i _ => hs _ (by decide +kernel))
    (fun i hi => by rw [h0 hi, wordsL_l]; exact hs _ (by decide +kernel))
    (fun i hi j hj => by
      rw [h0 hi] at hj ⊢
      have hj2 : j < 176 := by rw [wordsL_l] at hj; exact hj
      refine hs _ (List.mem_of_mem_drop (i := 13) ?_)
      rw [st_el]
      exact List.mem_map.mpr ⟨j, List.mem_range.mpr hj2, rfl⟩)
    (fun i j hi hj hij => absurd ((h0 hi).trans (h0 hj).symm) hij)
    (fun a ha q => by omega)
  refine ⟨f 0, g 0, ⟨fun i hi => ?_, fun i j hi hj _ => (h0 hi).trans (h0 hj).symm⟩, h2 0 (by decide)⟩
  have := h1.1 0 (by decide)
  rw [h0 hi]
  exact this
theorem st_N {s : State} {args : Array Value} (hts : ∀ w ∈ lw_tbl, w.before args s = true) (hs : ∀ c ∈ flatC (Jvm.Cond.and given_1 narrow_1), c.before args s = true) (b : Nat) : ∃ a : Nat, NWS (s.heap.size, b, a) s := by
  obtain ⟨aK, aV, h1, h2⟩ := st_S hs
  have hA : ∀ a : Nat, a < s.heap.size → ¬ (fun q => s.heap.size ≤ q) a := fun a ha q => by omega
  refine ⟨aK, fun q hq => ?_, ⟨"table guest at wet hot hoop swells starts spills toast swell minute left right hooped load size number seat beside far or and not all min max first last often total most least ", vk_R.of (hts _ (List.mem_of_getElem? (i := 611) (by decide +kernel))) h2⟩, ?_, ⟨aV, h1⟩, va_Zof (hts _ (List.mem_of_getElem? (i := 621) (by decide +kernel))) (hts _ (List.mem_of_getElem? (i := 156) (by decide +kernel))) (va_eqi (hs _ (by decide +kernel))) hA, va_Zqof (hts _ (List.mem_of_getElem? (i := 637) (by decide +kernel))) (hts _ (List.mem_of_getElem? (i := 158) (by decide +kernel))) (hs _ (by decide +kernel)) hA⟩
  · have hin : ∀ q ∈ nestL, q ∈ lw_tbl := by
      show ∀ q ∈ [_, _, _, _, _, _], q ∈ lw_tbl
      exact fA (List.mem_of_getElem? (i := 173) (by decide +kernel)) (fA (List.mem_of_getElem? (i := 271) (by decide +kernel)) (fA (List.mem_of_getElem? (i := 407) (by decide +kernel)) (fA (List.mem_of_getElem? (i := 424) (by decide +kernel)) (fA (List.mem_of_getElem? (i := 199) (by decide +kernel)) (fA (List.mem_of_getElem? (i := 276) (by decide +kernel)) fN)))))
    have ho : q.onTables = true := by
      obtain ⟨a, i, x, hh, rfl⟩ := nest_form q hq
      rfl
    exact va_Nw.of ho (hts q (hin q hq))
  · have g : (Cond.arrayOver (.array .int)).before args s = true := hts _ (List.mem_of_getElem? (i := 429) (by decide +kernel))
    exact g
end START
