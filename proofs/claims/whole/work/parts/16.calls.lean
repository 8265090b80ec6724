section CALLS
variable {p : Program} {l : Launch} {e : Env} {R : Room} {s : State} {m : MethodId} {args : Array Value} {below : List Frame} {meth : Method} {c : Code} {w rt ml : Nat} {cc : ByteArray} {Dg : va_G} {cA : Nat → ClassId} {B : BS} {scr : Prop} {xs : Nat → Int} {L : Nat} {d : Nat} {ph : Bool} {n0 : Nat} {Q : State → Prop} {r : Int × Mem}
def ws0 (y : MethodName) (b : ByteArray) (ml : Nat) (ret : Option FieldType) : List Cond := Cond.code y b ml ret :: lwG
def rmD (D mc ms : Nat) : Room := { frames := D, cells := mc, slots := ms, locals := D * 60 }
def PcS (Dg : va_G) (cA : Nat → ClassId) (B : BS) (σ : Mem) (U : State) : Prop := U.heap.size = B.1 + rN σ ∧ va_P Dg cls11 (wsE cA B.1 σ) U.heap ∧ va_K Dg cls11 (tysE cA) U ∧ NWS B U
/-- a method's contract: from these arguments and this memory, D deep, it comes to r -/
def MetJ (l : Launch) (ph : Bool) (D : Nat) (y : MethodName) (b : ByteArray) (ml : Nat) (ret : Option FieldType) (rt : Nat) (as : List AV) (σ : Mem) (r : Int × Mem) : Prop := ∀ (Dg : va_G) (cA : Nat → ClassId) (B : BS), okM ph σ → (∀ v ∈ as, okV False σ v) → Met l y (ws0 y b ml ret) (rmD D (rN r.2 - rN σ) (slN (rN r.2) - slN (rN σ))) (va_Pc (as.map (adV B)) (PcS Dg cA B σ)) (QcR Dg cA B ph rt r) (rN r.2 - rN σ) (slN (rN r.2) - slN (rN σ)) (fun q => B.1 ≤ q)
theorem gW {q : Cond} (h : q ∈ lwG) : q ∈ lwG ∧ ((q.onTables && q.keeps) = true ∨ ∃ ty, q = .arrayClass ty) := ⟨h, good_of_word (List.mem_filter.mp h).2⟩
theorem good0 {y : MethodName} {b : ByteArray} {ml : Nat} {ret : Option FieldType} (hc : Cond.code y b ml ret ∈ lwG) : GoodIn lwG (ws0 y b ml ret) := by
  intro q hq
  rcases List.mem_cons.mp hq with rfl | hq
  · exact gW hc
  · exact gW hq
theorem nest_form : ∀ q ∈ nestL, ∃ a i x h, q = Cond.methodLinkNest a i x h := by
  intro q hq
  simp only [nestL, List.mem_cons, List.not_mem_nil, or_false] at hq
  rcases hq with rfl | rfl | rfl | rfl | rfl | rfl <;> exact ⟨_, _, _, _, rfl⟩
theorem aoa_moved {u U : State} (hvm : u.vm.Alike U.vm) (h : (Cond.arrayOver (.array .int)).before #[] u = true) : (Cond.arrayOver (.array .int)).before #[] U = true := by
  unfold Cond.before Cond.holds at h ⊢
  simp only [Cond.value, beq_iff_eq] at h ⊢
  cases hc : u.vm.findClass (FieldType.array .int).toString with
  | none => simp [hc] at h
  | some comp =>
    simp only [hc, Option.bind_some, Option.bind_eq_some_iff, Option.map_eq_some_iff] at h
    obtain ⟨c, hi, k, hk, hb⟩ := h
    obtain ⟨k', hk', he⟩ := hvm.2.2 _ _ hk
    have hcomp : U.vm.findClass (FieldType.array .int).toString = some comp := by rw [hvm.findClass]; exact hc
    rw [hcomp, Option.bind_some, Option.bind_eq_some_iff]
    refine ⟨c, (hvm.findIdx?_eqK _ (fun _ => rfl)).trans hi, ?_⟩
    rw [hk', Option.map_some]
    have hkk : k'.kind = k.kind := by rw [he]
    simp only [hkk, hvm.findClass]
    rw [hb]
theorem NWS.warm {U : State} {H : Heap} {locs : List Loc} (h : NWS B s) (hW : s.WarmedH U.vm) (hS : va_S (fun q => B.1 ≤ q) s.heap H locs) (hU : U.heap = H) : NWS B U := by
  obtain ⟨h1, ⟨tx, h2⟩, h3, ⟨sV, h4⟩, h5, h6⟩ := h
  refine ⟨fun q hq => ?_, ⟨tx, h2.warm hW⟩, aoa_moved hW.alike h3, ⟨sV, ?_⟩, by rw [hU]; exact (h5.kept hS.2.1).moved hW.alike, by rw [hU]; exact (h6.kept hS.2.1).moved hW.alike⟩
  · obtain ⟨a, i, x, hh, rfl⟩ := nest_form q hq
    exact va_Nw.warmM hW (h1 _ hq)
  · rw [hU]
    exact (h4.kept hS.2.1).moved hW.alike
theorem NWS.calling {U : State} (g : JFrame) (mk : MethodId) (a : Array Value) (h : NWS B U) : NWS B (U.calling g mk a) := by
  obtain ⟨h1, ⟨tx, h2⟩, h3, ⟨sV, h4⟩, h5, h6⟩ := h
  refine ⟨fun q hq => ?_, ⟨tx, vk_R.same (u := U) rfl h2⟩, aoa_moved (u := U) (Vm.Alike.refl U.vm) h3, ⟨sV, vk_S.moved (u := U) (Vm.Alike.refl U.vm) h4⟩, va_Z.moved (u := U) (Vm.Alike.refl U.vm) h5, va_Zq.moved (u := U) (Vm.Alike.refl U.vm) h6⟩
  obtain ⟨a, i, x, hh, rfl⟩ := nest_form q hq
  exact va_Nw.same (u := U) rfl rfl (h1 _ hq)
theorem blindS {as : List Value} {σ : Mem} : FrameBlind (va_Pc as (PcS Dg cA B σ)) := fun a U g mk q => ⟨q.1, q.2.1, q.2.2.1, va_K.moved (u := U) (U := U.calling g mk a) (Vm.Alike.refl U.vm) q.2.2.2.1, NWS.calling g mk a q.2.2.2.2⟩
theorem okA_no : ∀ {as : List AV}, okA as = true → ∀ v ∈ as, ∀ n o, v ≠ vr 23 n o
  | [], _ => fun _ h => absurd h List.not_mem_nil
  | v :: as, h => by
    have hr : okA as = true ∧ ∀ n o, v ≠ vr 23 n o := by
      unfold okA at h
      split at h
      · next heq => cases heq
      · cases h
      · next u q e heq =>
        cases heq
        exact ⟨h, fun n o hv => e n o hv⟩
    intro u hu
    rcases List.mem_cons.mp hu with rfl | hu
    · exact hr.2
    · exact okA_no hr.1 u hu
theorem okV_F {σ : Mem} {v : AV} (h : ∀ n o, v ≠ vr 23 n o) (h1 : okV scr σ v) : okV False σ v := by
  rcases v with z | z | _ | ⟨t, n, a⟩
  · exact h1
  · exact h1
  · exact h1
  · rcases h1 with q | q | q
    · exact absurd (by rw [q.1]) (h n a)
    · exact Or.inr (Or.inl q)
    · exact Or.inr (Or.inr q)
theorem k_after {pc : Nat} {ls : Lc} {st0 : List Value} {stq : List AV} {σ : Mem} {r1 : Int × Mem} {rk rt' : Nat} {a : Array Value} {H : Heap} {locs : List Loc} {lsR : Array Slot} (hn : n0 ≤ rN σ) (rel : REL ph Dg cA B scr ml s.heap σ ls stq H locs lsR) (hg1 : rN σ ≤ rN r1.2) (hrk : rk = (bif Nat.beq rt' 3 then 1 else bif Nat.beq rt' 4 then 0 else rt')) (hrt' : rt' ≤ 4)
    (hr : va_Run p l e R s m args below meth c H locs (rN σ - n0) (slN (rN σ) - slN n0) (rN r1.2 - rN σ) (slN (rN r1.2) - slN (rN σ)) (F0 m pc lsR st0) (stq.map (adV B)) (QcR Dg cA B ph rt' r1 a) (fun q => B.1 ≤ q))
    (hk : AK p l e R s m args below meth c ml Dg cA B scr ph n0 Q r (pc + 3) ls (pushR rk r1.1 stq) r1.2) : W p l e R s m args below meth c H locs (rN σ - n0) (slN (rN σ) - slN n0) Q (F0 m pc lsR st0) := by
  have hm1 : slN (rN σ) ≤ slN (rN r1.2) := slN_mono hg1
  have hm0 : slN n0 ≤ slN (rN σ) := slN_mono hn
  have fin : ∀ (t : State) (H1 : Heap) (locs1 : List Loc) (vs : List AV), t.heap = H1 → WB Dg cA B ph r1 t → va_S (fun q => B.1 ≤ q) s.heap H1 locs1 → pushR rk r1.1 stq = vs → (∀ v ∈ vs, okV scr r1.2 v) → W p l e R s m args below meth c H1 locs1 (rN σ - n0 + (rN r1.2 - rN σ)) (slN (rN σ) - slN n0 + (slN (rN r1.2) - slN (rN σ))) Q (F0 m (pc + 3) lsR (vs.map (adV B))) := by
    intro t H1 locs1 vs ht hB hS e1 hvs
    rw [e1] at hk
    refine W.cs (by omega) (by omega) (hk.2 H1 locs1 lsR (Nat.le_trans hn hg1) (rel.mem hg1 (by rw [← ht]; exact hB.1) hB.2 hS hvs))
  have up : ∀ v ∈ stq, okV scr r1.2 v := fun v hv => okV_mono hg1 (rel.top v hv)
  unfold QcR at hr
  by_cases h2 : rt' = 2
  · subst h2
    rw [if_pos rfl] at hr
    refine va_calll hr rel.2.2.1 (fun q _ h => h) (fun q h => h) (fun x u t H1 locs1 ht hvm hp hB hz hk1 hS => ?_)
    obtain ⟨rfl, hrg⟩ := hp
    exact fin t H1 locs1 (vl r1.1 :: stq) ht hB hS (by rw [hrk]; rfl) (List.forall_mem_cons.mpr ⟨hrg, up⟩)
  · rw [if_neg h2] at hr
    by_cases h1 : rt' = 1 ∨ rt' = 3
    · rw [if_pos h1] at hr
      refine va_calli hr rel.2.2.1 (fun q _ h => h) (fun q h => h) (fun x u t H1 locs1 ht hvm hp hB hz hk1 hS => ?_)
      obtain ⟨rfl, hrg⟩ := hp
      exact fin t H1 locs1 (.inl r1.1 :: stq) ht hB hS (by rw [hrk]; rcases h1 with rfl | rfl <;> rfl) (List.forall_mem_cons.mpr ⟨hrg, up⟩)
    · rw [if_neg h1] at hr
      refine va_callv hr rel.2.2.1 (fun q _ h => h) (fun q h => h) (fun u t H1 locs1 ht hvm hp hB hz hk1 hS => ?_)
      exact fin t H1 locs1 stq ht hB hS (by rw [hrk]; have : rt' = 0 ∨ rt' = 4 := by omega
                                            rcases this with rfl | rfl <;> rfl) up
theorem take_split {st : List AV} {na : Nat} {v : AV} {q : List AV} (h : st.drop (na - 1) = v :: q) (hna : 0 < na) : ∃ pre : List AV, st = pre ++ v :: q ∧ pre.length = na - 1 ∧ (st.take na).reverse = v :: pre.reverse := by
  have e1 : st = st.take (na - 1) ++ v :: q := by rw [← h]; exact (List.take_append_drop _ _).symm
  have hl : na - 1 < st.length := by
    rcases Nat.lt_or_ge (na - 1) st.length with z | z
    · exact z
    · rw [List.drop_eq_nil_of_le z] at h; cases h
  have hlen : (st.take (na - 1)).length = na - 1 := by rw [List.length_take]; omega
  refine ⟨st.take (na - 1), e1, hlen, ?_⟩
  have e2 : st.take na = st.take (na - 1) ++ [v] := by
    conv => lhs; rw [e1]
    rw [List.take_append, hlen, show na - (na - 1) = 1 by omega, List.take_of_length_le (by omega)]
    rfl
  rw [e2]
  simp
theorem pre_ok {σ : Mem} {as : List AV} {H : Heap} {locs : List Loc} (hK : va_K Dg cls11 (tysE cA) s) (hnw : NWS B s) (hsz : H.size = B.1 + rN σ) (hP : va_P Dg cls11 (wsE cA B.1 σ) H) (hS : va_S (fun q => B.1 ≤ q) s.heap H locs) : ∀ U : State, U.heap = H → s.WarmedH U.vm → va_Pc (as.map (adV B)) (PcS Dg cA B σ) (as.map (adV B)).toArray U :=
  fun U hU hW => ⟨rfl, by rw [hU]; exact hsz, by rw [hU]; exact hP, va_K.moved hW.alike hK, hnw.warm hW hS hU⟩
end CALLS
