section STEPS
variable {p : Program} {l : Launch} {e : Env} {R : Room} {s : State} {m : MethodId} {args : Array Value} {below : List Frame} {meth : Method} {c : Code} {w rt ml : Nat} {cc : ByteArray} {Dg : va_G} {cA : Nat → ClassId} {B : BS} {scr : Prop} {xs : Nat → Int} {L : Nat} {d : Nat} {ph : Bool} {n0 : Nat} {Q : State → Prop} {r : Int × Mem}
def yLen : MethodName := ⟨"java/lang/String", "length", "()I"⟩
def yChr : MethodName := ⟨"java/lang/String", "charAt", "(I)C"⟩
/-- the calls are sound, D deep -/
def CallOk (C : Cy) (l : Launch) (ph : Bool) (D : Nat) : Prop := ∀ j as σ r, C j as σ = some r → (j < 900 ∨ j = 900 ∨ j = 901) ∧ rN σ ≤ rN r.2 ∧ (j < 900 → ctGet infL j ≠ none → ∃ w' rt' ml' cd' y b ret, ctGet metL j = some (w', rt', ml', cd') ∧ MF j w' rt' ml' cd' ∧ ctGet infL j = some (y, b, ml', ret) ∧ MetJ l ph D y b ml' ret rt' as σ r) ∧ (j = 900 → MetJ l ph D yLen prog_16_method_54_code 1 (some .int) 1 as σ r) ∧ (j = 901 → MetJ l ph D yChr prog_16_method_56_code 2 (some .char) 1 as σ r)
theorem rm_fits {D ml' : Nat} {mc ms : Nat} (h1 : D + 1 ≤ R.frames) (h2 : (D + 1) * 60 ≤ R.locals) (h3 : ml' ≤ 40) : (rmD D mc ms).frames + 1 ≤ R.frames ∧ 8 + (ml' + 11) + (rmD D mc ms).locals ≤ R.locals := ⟨h1, by show 8 + (ml' + 11) + D * 60 ≤ _; omega⟩
/-- the room for a callee's cells -/
theorem fit_cells {σ : Mem} {r1 : Int × Mem} (hn : n0 ≤ rN σ) (h1 : rN σ ≤ rN r1.2) (h2 : rN r1.2 ≤ rN r.2) (hcl : rN r.2 - n0 ≤ R.cells) (hsl : slN (rN r.2) - slN n0 ≤ R.slots) : rN σ - n0 + (rN r1.2 - rN σ) ≤ R.cells ∧ slN (rN σ) - slN n0 + (slN (rN r1.2) - slN (rN σ)) ≤ R.slots := by
  have a := slN_mono hn
  have b := slN_mono h1
  have c := slN_mono h2
  exact ⟨by omega, by omega⟩
theorem k_callV {C : Cy} (C0 : CX p s m args meth c w rt ml cc Dg cA B scr xs L R d n0 r) (hC : CallOk C l ph d) {pc : Nat} {ls : Lc} {st q : List AV} {σ : Mem} {k j na rk t n o : Nat} {r1 : Int × Mem} (hd : decode cc pc = .ok (.invokevirtual k, 3)) (hm : mthT w k = some (j, na, rk, t)) (hj : j < 900) (hst : st.drop (na - 1) = vr t n o :: q) (hi : isIni j = false) (hr : okR q = true) (ha : okA (st.take na) = true) (hc : C j (st.take na).reverse σ = some r1) (hk : AK p l e R s m args below meth c ml Dg cA B scr ph n0 Q r (pc + 3) ls (pushR rk r1.1 q) r1.2) : AK p l e R s m args below meth c ml Dg cA B scr ph n0 Q r pc ls st σ := by
  obtain ⟨-, hg1, hM, -⟩ := hC j _ σ r1 hc
  obtain ⟨hx, hb, hml, hown, hts, hK, hlocks, hrt, hini, hbs, hscr, hstr, hfr, hlo, hcl, hsl⟩ := C0
  refine ⟨Nat.le_trans hg1 hk.1, fun H locs lsR hn rel => ?_⟩
  obtain ⟨y, b, ml', ret, i1, ⟨z, z1, z2, z3, z4, z5, hlink⟩, hpar, hna, hsta, hins⟩ := lf_of hm hj
  simp only [] at i1 z1 z2 z3 z4 z5 hlink hpar hna hsta hins
  obtain ⟨w', rt', ml2, cd', y2, b2, ret2, e1, hMF, e2, hMet⟩ := hM hj (by rw [i1]; exact Option.some_ne_none _)
  rw [z1] at e1
  cases e1
  rw [i1] at e2
  cases e2
  simp only [] at z2 z3 z4 z5 hlink
  obtain ⟨y3, b3, ret3, st3, f1, f2, f3, f4, f5, f6, f7, f8, f9, f10, f11, f12⟩ := hMF
  rw [i1] at f1
  cases f1
  obtain ⟨pre, p1, p2, p3⟩ := take_split hst hna
  have hall := rel.top
  rw [p1] at hall
  have hrecv : okV scr σ (vr t n o) := hall _ (by simp)
  have ht99 : t ≠ 99 := by
    intro h99
    rcases hrecv with g | g | g
    · omega
    · omega
    · have := (lay_sz g.2).2
      simp only [] at this
      omega
  have ht11 : t < 11 := by rcases z3 with g | g; exact absurd g ht99; exact g.2
  have hw' : w' = t := by rcases z3 with g | g; exact absurd g ht99; exact g.1
  subst hw'
  have htt : w' ≠ 23 ∧ w' ≠ 24 := by omega
  obtain ⟨ho, hl⟩ := okV_obj hrecv htt
  have hpar2 : (parseMethodDescriptor y.desc).map (fun d => d.parameters.length) = some (na - 1) := by
    rw [beq_ff ht99, cond_false] at hpar
    exact hpar
  have hq : ∀ v ∈ q, okV scr σ v := fun v hv => hall v (by simp [hv])
  refine W_hsz hbs hn rel.2.2.1 rel.1 fun hsz => ?_
  have hMet2 := hMet Dg cA B rel.2.1 (fun v hv => okV_F (okA_no ha v (List.mem_reverse.mp hv)) (rel.top v (List.mem_of_mem_take (List.mem_reverse.mp hv))))
  rw [p3] at hMet2
  have hst2 : st.map (adV B) = ((pre.reverse).map (adV B)).reverse ++ .ref (B.1 + o) :: q.map (adV B) := by
    rw [p1, List.map_append, List.map_cons, ad_obj htt, List.map_reverse, List.reverse_reverse]
  have hpre : ∀ U : State, U.heap = H → s.WarmedH U.vm → va_Pc ((vr w' n o :: pre.reverse).map (adV B)) (PcS Dg cA B σ) (Value.ref (B.1 + o) :: (pre.reverse).map (adV B)).toArray U := by
    have g := pre_ok (as := vr w' n o :: pre.reverse) hK hstr hsz rel.1 rel.2.2.1
    rw [List.map_cons, ad_obj htt] at g ⊢
    exact g
  have hrt' : rt' ≠ 4 := by
    intro h4
    unfold isIni at hi
    rw [z1, h4] at hi
    cases hi
  have hsel : Cond.selects y.cls y y ∈ lwG := by
    rcases z4 with g | g
    · exact absurd g.1 hrt'
    · rcases g.2 with g | g
      · exact absurd g ht99
      · exact g
  have hlink' : Cond.methodLink (nmT w) k y ∈ lwG := by
    rcases hlink with g | g
    · exact g
    · exact absurd g.1 hrt'
  refine k_after hn (rel.stk hq) hg1 z2 z5 (va_runV (As := (pre.reverse).map (adV B)) (rest := q.map (adV B)) (b := B.1 + o) (C := nmT w') ⟨hx, hb, hml, hown, hts⟩ hMet2 ⟨callB_of (na - 1) hts (good0 f5) rfl rfl rfl (hts _ f6) (hts _ hlink') ⟨f4.1, f4.2, hpar2⟩ (rm_fits hfr hlo f8), hts _ (hins ht99), by rw [← f2]; exact hts _ hsel⟩ ⟨blindS, va_recv hK rel.1 (ci := w') (q0 := o) (cls_at ht11) (by rw [wsE_at ho, cellE_obj hl ht11]), hpre⟩ rfl (by rw [List.length_map, List.length_reverse, p2]) rel.2.2.2.1.1 hst2 (lv_room (okR_le hr B)) hd (fit_cells hn hg1 hk.1 hcl hsl)) hk
theorem k_callI {C : Cy} (C0 : CX p s m args meth c w rt ml cc Dg cA B scr xs L R d n0 r) (hC : CallOk C l ph d) {pc : Nat} {ls : Lc} {st q : List AV} {σ : Mem} {k j na rk t n o : Nat} {r1 : Int × Mem} (hd : decode cc pc = .ok (.invokespecial k, 3)) (hm : mthT w k = some (j, na, rk, t)) (hj : j < 900) (hst : st.drop (na - 1) = vr t n o :: q) (hi : isIni j = true) (hr : okR q = true) (ha : okA (st.take na) = true) (hc : C j (st.take na).reverse σ = some r1) (hk : AK p l e R s m args below meth c ml Dg cA B scr ph n0 Q r (pc + 3) ls (pushR rk r1.1 q) r1.2) : AK p l e R s m args below meth c ml Dg cA B scr ph n0 Q r pc ls st σ := by
  obtain ⟨-, hg1, hM, -⟩ := hC j _ σ r1 hc
  obtain ⟨hx, hb, hml, hown, hts, hK, hlocks, hrt, hini, hbs, hscr, hstr, hfr, hlo, hcl, hsl⟩ := C0
  refine ⟨Nat.le_trans hg1 hk.1, fun H locs lsR hn rel => ?_⟩
  obtain ⟨y, b, ml', ret, i1, ⟨z, z1, z2, z3, z4, z5, hlink⟩, hpar, hna, hsta, hins⟩ := lf_of hm hj
  simp only [] at i1 z1 z2 z3 z4 z5 hlink hpar hna hsta hins
  obtain ⟨w', rt', ml2, cd', y2, b2, ret2, e1, hMF, e2, hMet⟩ := hM hj (by rw [i1]; exact Option.some_ne_none _)
  rw [z1] at e1
  cases e1
  rw [i1] at e2
  cases e2
  simp only [] at z2 z3 z4 z5 hlink
  obtain ⟨y3, b3, ret3, st3, f1, f2, f3, f4, f5, f6, f7, f8, f9, f10, f11, f12⟩ := hMF
  rw [i1] at f1
  cases f1
  obtain ⟨pre, p1, p2, p3⟩ := take_split hst hna
  have hall := rel.top
  rw [p1] at hall
  have hrecv : okV scr σ (vr t n o) := hall _ (by simp)
  have ht99 : t ≠ 99 := by
    intro h99
    rcases hrecv with g | g | g
    · omega
    · omega
    · have := (lay_sz g.2).2
      simp only [] at this
      omega
  have ht11 : t < 11 := by rcases z3 with g | g; exact absurd g ht99; exact g.2
  have hw' : w' = t := by rcases z3 with g | g; exact absurd g ht99; exact g.1
  subst hw'
  have htt : w' ≠ 23 ∧ w' ≠ 24 := by omega
  obtain ⟨ho, hl⟩ := okV_obj hrecv htt
  have hpar2 : (parseMethodDescriptor y.desc).map (fun d => d.parameters.length) = some (na - 1) := by
    rw [beq_ff ht99, cond_false] at hpar
    exact hpar
  have hq : ∀ v ∈ q, okV scr σ v := fun v hv => hall v (by simp [hv])
  refine W_hsz hbs hn rel.2.2.1 rel.1 fun hsz => ?_
  have hMet2 := hMet Dg cA B rel.2.1 (fun v hv => okV_F (okA_no ha v (List.mem_reverse.mp hv)) (rel.top v (List.mem_of_mem_take (List.mem_reverse.mp hv))))
  rw [p3] at hMet2
  have hst2 : st.map (adV B) = ((pre.reverse).map (adV B)).reverse ++ .ref (B.1 + o) :: q.map (adV B) := by
    rw [p1, List.map_append, List.map_cons, ad_obj htt, List.map_reverse, List.reverse_reverse]
  have hpre : ∀ U : State, U.heap = H → s.WarmedH U.vm → va_Pc ((vr w' n o :: pre.reverse).map (adV B)) (PcS Dg cA B σ) (Value.ref (B.1 + o) :: (pre.reverse).map (adV B)).toArray U := by
    have g := pre_ok (as := vr w' n o :: pre.reverse) hK hstr hsz rel.1 rel.2.2.1
    rw [List.map_cons, ad_obj htt] at g ⊢
    exact g
  have hrt' : rt' = 4 := by
    unfold isIni at hi
    rw [z1] at hi
    exact Nat.eq_of_beq_eq_true hi
  have hnm : y.name = "<init>" := f10 hrt'
  have hret : ret = none := by
    unfold rtOk at f9
    rw [hrt'] at f9
    split at f9 <;> first | rfl | (rename_i g; cases g) | (rename_i g _; cases g) | cases f9
  subst hret
  rcases hlink with g | g
  · exact k_after hn (rel.stk hq) hg1 z2 z5 (va_runI (As := (pre.reverse).map (adV B)) (rest := q.map (adV B)) (b := B.1 + o) ⟨hx, hb, hml, hown, hts⟩ hMet2 ⟨callB_of (na - 1) hts (good0 f5) rfl rfl rfl (hts _ f6) (hts _ g) ⟨f4.1, f4.2, hpar2⟩ (rm_fits hfr hlo f8), hnm, hts _ (hins ht99)⟩ ⟨blindS, hpre⟩ rfl (by rw [List.length_map, List.length_reverse, p2]) rel.2.2.2.1.1 hst2 (lv_room (okR_le hr B)) hd (fit_cells hn hg1 hk.1 hcl hsl)) hk
  · exact k_after hn (rel.stk hq) hg1 z2 z5 (va_runIN (As := (pre.reverse).map (adV B)) (rest := q.map (adV B)) (b := B.1 + o) ⟨hx, hb, hml, hown, hts⟩ hMet2 ⟨va_cnB (na - 1) hts (good0 f5) rfl rfl rfl (hstr.1 _ g.2.2) (hts _ f6) ⟨f4.1, f4.2, hpar2⟩ (rm_fits hfr hlo f8), hnm, hts _ (hins ht99)⟩ ⟨blindS, hpre⟩ rfl (by rw [List.length_map, List.length_reverse, p2]) rel.2.2.2.1.1 hst2 (lv_room (okR_le hr B)) hd (fit_cells hn hg1 hk.1 hcl hsl)) hk
theorem k_callS {C : Cy} (C0 : CX p s m args meth c w rt ml cc Dg cA B scr xs L R d n0 r) (hC : CallOk C l ph d) {pc : Nat} {ls : Lc} {st : List AV} {σ : Mem} {k j na rk : Nat} {r1 : Int × Mem} (hd : decode cc pc = .ok (.invokestatic k, 3)) (hm : mthT w k = some (j, na, rk, 99)) (hj : j < 900) (hl : na ≤ st.length) (hr : okR (st.drop na) = true) (ha : okA (st.take na) = true) (hc : C j (st.take na).reverse σ = some r1) (hk : AK p l e R s m args below meth c ml Dg cA B scr ph n0 Q r (pc + 3) ls (pushR rk r1.1 (st.drop na)) r1.2) : AK p l e R s m args below meth c ml Dg cA B scr ph n0 Q r pc ls st σ := by
  obtain ⟨-, hg1, hM, -⟩ := hC j _ σ r1 hc
  obtain ⟨hx, hb, hml, hown, hts, hK, hlocks, hrt, hini, hbs, hscr, hstr, hfr, hlo, hcl, hsl⟩ := C0
  refine ⟨Nat.le_trans hg1 hk.1, fun H locs lsR hn rel => ?_⟩
  obtain ⟨y, b, ml', ret, i1, ⟨z, z1, z2, z3, z4, z5, hlink⟩, hpar, hna, hsta, hins⟩ := lf_of hm hj
  simp only [] at i1 z1 z2 z3 z4 z5 hlink hpar hna hsta hins
  obtain ⟨w', rt', ml2, cd', y2, b2, ret2, e1, hMF, e2, hMet⟩ := hM hj (by rw [i1]; exact Option.some_ne_none _)
  rw [z1] at e1
  cases e1
  rw [i1] at e2
  cases e2
  simp only [] at z2 z3 z4 z5 hlink
  obtain ⟨y3, b3, ret3, st3, f1, f2, f3, f4, f5, f6, f7, f8, f9, f10, f11, f12⟩ := hMF
  rw [i1] at f1
  cases f1
  have hpar2 : (parseMethodDescriptor y.desc).map (fun d => d.parameters.length) = some na := hpar
  have hq : ∀ v ∈ st.drop na, okV scr σ v := fun v hv => rel.top v (List.mem_of_mem_drop hv)
  refine W_hsz hbs hn rel.2.2.1 rel.1 fun hsz => ?_
  have hMet2 := hMet Dg cA B rel.2.1 (fun v hv => okV_F (okA_no ha v (List.mem_reverse.mp hv)) (rel.top v (List.mem_of_mem_take (List.mem_reverse.mp hv))))
  have hst2 : st.map (adV B) = (((st.take na).reverse).map (adV B)).reverse ++ (st.drop na).map (adV B) := by
    rw [List.map_reverse, List.reverse_reverse, ← List.map_append, List.take_append_drop]
  have hlink' : Cond.methodLink (nmT w) k y ∈ lwG := by
    rcases hlink with g | g
    · exact g
    · exact absurd rfl g.2.1
  exact k_after hn (rel.stk hq) hg1 z2 z5 (va_runS (As := ((st.take na).reverse).map (adV B)) (rest := (st.drop na).map (adV B)) ⟨hx, hb, hml, hown, hts⟩ hMet2 ⟨callB_of na hts (good0 f5) rfl rfl rfl (hts _ f6) (hts _ hlink') ⟨f4.1, f4.2, hpar2⟩ (rm_fits hfr hlo f8), hts _ (hsta trivial)⟩ ⟨blindS, pre_ok hK hstr hsz rel.1 rel.2.2.1⟩ rfl (by rw [List.length_map, List.length_reverse, List.length_take]; omega) rel.2.2.2.1.1 hst2 (lv_room (okR_le hr B)) hd (fit_cells hn hg1 hk.1 hcl hsl)) hk
/-- a method of the text: y, with na arguments beside the text -/
theorem k_callT {y : MethodName} {b : ByteArray} {ml' : Nat} {ret : Option FieldType} {k na n o pc : Nat} {ls : Lc} {st q : List AV} {σ : Mem} {r1 : Int × Mem} (C0 : CX p s m args meth c w rt ml cc Dg cA B scr xs L R d n0 r) (hg1 : rN σ ≤ rN r1.2) (hM : MetJ l ph d y b ml' ret 1 (st.take na).reverse σ r1) (hcls : y.cls = "java/lang/String") (hcode : Cond.code y b ml' ret ∈ lwG) (hinst : Cond.instanceMethod y ∈ lwG) (hsel : Cond.selects "java/lang/String" y y ∈ lwG) (hlink : Cond.methodLink (nmT w) k y ∈ lwG) (hpar : (parseMethodDescriptor y.desc).map (fun d => d.parameters.length) = some (na - 1)) (hna : 0 < na) (hml' : ml' ≤ 40) (hd : decode cc pc = .ok (.invokevirtual k, 3)) (hst : st.drop (na - 1) = vr 24 n o :: q) (hr : okR q = true) (ha : okA (st.take na) = true) (hk : AK p l e R s m args below meth c ml Dg cA B scr ph n0 Q r (pc + 3) ls (pushR 1 r1.1 q) r1.2) : AK p l e R s m args below meth c ml Dg cA B scr ph n0 Q r pc ls st σ := by
  obtain ⟨hx, hb, hml, hown, hts, hK, hlocks, hrt, hini, hbs, hscr, hstr, hfr, hlo, hcl, hsl⟩ := C0
  refine ⟨Nat.le_trans hg1 hk.1, fun H locs lsR hn rel => ?_⟩
  obtain ⟨pre, p1, p2, p3⟩ := take_split hst hna
  have hall := rel.top
  rw [p1] at hall
  have hq : ∀ v ∈ q, okV scr σ v := fun v hv => hall v (by simp [hv])
  refine W_hsz hbs hn rel.2.2.1 rel.1 fun hsz => ?_
  have hMet2 := hM Dg cA B rel.2.1 (fun v hv => okV_F (okA_no ha v (List.mem_reverse.mp hv)) (rel.top v (List.mem_of_mem_take (List.mem_reverse.mp hv))))
  rw [p3] at hMet2
  have hst2 : st.map (adV B) = ((pre.reverse).map (adV B)).reverse ++ .ref B.2.2 :: q.map (adV B) := by
    rw [p1, List.map_append, List.map_cons, List.map_reverse, List.reverse_reverse]
    rfl
  have hpre : ∀ U : State, U.heap = H → s.WarmedH U.vm → va_Pc ((vr 24 n o :: pre.reverse).map (adV B)) (PcS Dg cA B σ) (Value.ref B.2.2 :: (pre.reverse).map (adV B)).toArray U := pre_ok (as := vr 24 n o :: pre.reverse) hK hstr hsz rel.1 rel.2.2.1
  obtain ⟨sV, hS4⟩ := hstr.2.2.2.1
  exact k_after (rt' := 1) hn (rel.stk hq) hg1 rfl (by decide) (va_runV (As := (pre.reverse).map (adV B)) (rest := q.map (adV B)) (b := B.2.2) (C := "java/lang/String") ⟨hx, hb, hml, hown, hts⟩ hMet2 ⟨callB_of (na - 1) hts (good0 hcode) rfl rfl rfl (by rw [hcls]; exact hts _ sw_12) (hts _ hlink) ⟨by rw [hcls]; decide, by rw [hcls]; decide, hpar⟩ (rm_fits hfr hlo hml'), hts _ hinst, hts _ hsel⟩ ⟨blindS, vk_recv (i := 0) hS4 (by decide) rel.2.2.1, hpre⟩ rfl (by rw [List.length_map, List.length_reverse, p2]) rel.2.2.2.1.1 hst2 (lv_room (okR_le hr B)) hd (fit_cells hn hg1 hk.1 hcl hsl)) hk
theorem k_callLen {C : Cy} (C0 : CX p s m args meth c w rt ml cc Dg cA B scr xs L R d n0 r) (hC : CallOk C l ph d) {pc : Nat} {ls : Lc} {st q : List AV} {σ : Mem} {k na rk t n o : Nat} {r1 : Int × Mem} (hd : decode cc pc = .ok (.invokevirtual k, 3)) (hm : mthT w k = some (900, na, rk, t)) (hst : st.drop (na - 1) = vr t n o :: q) (hr : okR q = true) (ha : okA (st.take na) = true) (hc : C 900 (st.take na).reverse σ = some r1) (hk : AK p l e R s m args below meth c ml Dg cA B scr ph n0 Q r (pc + 3) ls (pushR rk r1.1 q) r1.2) : AK p l e R s m args below meth c ml Dg cA B scr ph n0 Q r pc ls st σ := by
  obtain ⟨-, hg1, -, hM, -⟩ := hC 900 _ σ r1 hc
  obtain ⟨hx, hlink⟩ := sl_of_900 hm
  cases hx
  exact k_callT C0 hg1 (hM rfl) rfl sw_471 sw_469 sw_470 hlink (by decide +kernel) (by decide) (by decide) hd hst hr ha hk
theorem k_callChr {C : Cy} (C0 : CX p s m args meth c w rt ml cc Dg cA B scr xs L R d n0 r) (hC : CallOk C l ph d) {pc : Nat} {ls : Lc} {st q : List AV} {σ : Mem} {k na rk t n o : Nat} {r1 : Int × Mem} (hd : decode cc pc = .ok (.invokevirtual k, 3)) (hm : mthT w k = some (901, na, rk, t)) (hst : st.drop (na - 1) = vr t n o :: q) (hr : okR q = true) (ha : okA (st.take na) = true) (hc : C 901 (st.take na).reverse σ = some r1) (hk : AK p l e R s m args below meth c ml Dg cA B scr ph n0 Q r (pc + 3) ls (pushR rk r1.1 q) r1.2) : AK p l e R s m args below meth c ml Dg cA B scr ph n0 Q r pc ls st σ := by
  obtain ⟨-, hg1, -, -, hM⟩ := hC 901 _ σ r1 hc
  obtain ⟨hx, hlink⟩ := sl_of_901 hm
  cases hx
  exact k_callT C0 hg1 (hM rfl) rfl sw_481 sw_479 sw_480 hlink (by decide +kernel) (by decide) (by decide) hd hst hr ha hk
end STEPS
