/-! every method: what the abstract machine says of it, the machine does -/
section METH
variable {l : Launch} {ph : Bool} {xs : Nat → Int} {L : Nat}
theorem argL_args (B : BS) : ∀ (as : List AV) (i : Nat), (argL i as).map (fun q => (q.1, adV B q.2)) = lv_args i (as.map (adV B))
  | [], _ => rfl
  | v :: r, i => by
    rw [argL, List.map_cons, List.map_cons, argL_args B r, lv_args, cat_ad]
    cases cat2 v <;> rfl
theorem argL_in : ∀ (as : List AV) (i : Nat), ∀ q ∈ argL i as, q.2 ∈ as
  | [], _, _, h => by cases h
  | v :: r, i, q, h => by
    unfold argL at h
    rcases List.mem_cons.mp h with rfl | h
    · exact List.mem_cons_self
    · exact List.mem_cons_of_mem _ (argL_in r _ q h)
theorem sl_len (B : BS) : ∀ (as : List AV), (lg_sl (as.map (adV B))).length = sumC as
  | [] => rfl
  | v :: r => by
    have h := sl_len B r
    unfold lg_sl at h ⊢
    rw [List.map_cons, List.flatMap_cons, List.length_append, h, cat_ad]
    rw [sumC]
    cases cat2 v <;> rfl
theorem met_of {C : Cy} {D : Nat} {j w rt ml : Nat} {cd : CT Ent} {y : MethodName} {b : ByteArray} {ret : Option FieldType} (hMF : MF j w rt ml cd) (hinf : ctGet infL j = some (y, b, ml, ret)) (hC : CallOk C l ph D) {as : List AV} {σ : Mem} {r : Int × Mem} (hs : sumC as ≤ ml) (h : runF ph xs L w rt cd C 0 (argL 0 as) [] σ = some r) : MetJ l ph (D + 1) y b ml ret rt as σ r := by
  intro Dg cA B hM hV
  obtain ⟨y3, b3, ret3, st3, f1, f2, f3, f4, f5, f6, f7, f8, f9, f10, f11, f12⟩ := hMF
  rw [hinf] at f1
  cases f1
  refine va_MetF (cc := b) (maxL := ml) (ret := ret) f3 rfl ?_
  intro p e s m args below meth c s₁ Bd hml hv
  obtain ⟨rfl, hsz, hP, hK, hN⟩ := hv
  have hts := atoms_spec (ws := ws0 y b ml ret) Bd.pre
  have C0 : CX p s m (as.map (adV B)).toArray meth c w rt ml b Dg cA B False xs L (headSpec (ws0 y b ml ret) (rmD (D + 1) (rN r.2 - rN σ) (slN (rN r.2) - slN (rN σ)))).room D (rN σ) r := by
    refine ⟨Bd.exec, Bd.bytes, hml, by rw [← f2]; exact findClass_of_methodNamed Bd.named, fun q hq => hts q (List.mem_cons_of_mem _ hq), hK, Bd.notSynchronized, ?_, fun h4 => by rw [(name_of_methodNamed Bd.named Bd.method).1]; exact f10 h4, hsz, fun h => h.elim, hN, Nat.le_refl _, Nat.le_refl _, Nat.le_refl _, Nat.le_refl _⟩
    rw [Bd.returns]
    exact f9
  have hA := run_sound (e := e) (below := below) C0 hC f7 h
  rw [lg_entry_eq]
  have hl := lv_entry (as.map (adV B)) (n := ml) (by rw [sl_len]; exact hs)
  have g := hA.2 s.heap [] _ (Nat.le_refl _) ⟨hP, hM, va_S.rf, by rw [argL_args]; exact hl, fun q hq => hV _ (argL_in as 0 q hq), fun v hv => by cases hv⟩
  rw [Nat.sub_self, Nat.sub_self] at g
  exact g
theorem cS_mono : ∀ (d j : Nat) (as : List AV) (σ : Mem) (r : Int × Mem), cS ph xs L d j as σ = some r → rN σ ≤ rN r.2
  | 0, _, _, _, _, h => by cases h
  | d + 1, j, as, σ, r, h => by
    unfold cS at h
    by_cases h900 : j = 900
    · subst h900
      simp only [show Nat.beq 900 900 = true from rfl, cond_true] at h
      split at h
      · cases h; exact Nat.le_refl _
      · cases h
    · rw [beq_ff h900, cond_false] at h
      by_cases h901 : j = 901
      · subst h901
        simp only [show Nat.beq 901 901 = true from rfl, cond_true] at h
        split at h
        · rcases ite_inv h with ⟨-, h⟩ | ⟨-, h⟩
          · cases h; exact Nat.le_refl _
          · cases h
        · cases h
      · rw [beq_ff h901, cond_false] at h
        split at h
        · cases h
        · obtain ⟨-, h⟩ := bif_inv h
          exact mono_run (fun j as σ r => cS_mono d j as σ r) h
theorem inf_of {j w rt ml : Nat} {cd : CT Ent} (h : MF j w rt ml cd) : ∃ y b ret, ctGet infL j = some (y, b, ml, ret) := by
  obtain ⟨y, b, ret, st, f1, -⟩ := h
  exact ⟨y, b, ret, f1⟩
theorem call_ok : ∀ d : Nat, CallOk (cS ph xs L d) l ph (d + 4)
  | 0 => by intro j as σ r h; cases h
  | d + 1 => by
    intro j as σ r h
    have hmono := cS_mono (d + 1) j as σ r h
    unfold cS at h
    by_cases h900 : j = 900
    · subst h900
      simp only [show Nat.beq 900 900 = true from rfl, cond_true] at h
      split at h
      · cases h
        exact ⟨Or.inr (Or.inl rfl), hmono, fun q => absurd q (by decide), fun _ => t_len, fun q => absurd q (by decide)⟩
      · cases h
    · rw [beq_ff h900, cond_false] at h
      by_cases h901 : j = 901
      · subst h901
        simp only [show Nat.beq 901 901 = true from rfl, cond_true] at h
        split at h
        · rcases ite_inv h with ⟨hk, h⟩ | ⟨-, h⟩
          · cases h
            exact ⟨Or.inr (Or.inr rfl), hmono, fun q => absurd q (by decide), fun q => absurd q (by decide), fun _ => t_chr hk⟩
          · cases h
        · cases h
      · rw [beq_ff h901, cond_false] at h
        split at h
        · cases h
        · next w rt ml cd e =>
          obtain ⟨hs, h⟩ := bif_inv h
          refine ⟨Or.inl (met_lt e), hmono, fun hj hinf => ?_, fun q => absurd q h900, fun q => absurd q h901⟩
          rcases mf_all _ (ctGet_mem e) with hl | hMF
          · exact absurd (by rw [show j = _ from hl]; decide +kernel) hinf
          · obtain ⟨y, b, ret, hi⟩ := inf_of hMF
            exact ⟨w, rt, ml, cd, y, b, ret, e, hMF, hi, met_of hMF hi (call_ok d) (Nat.le_of_ble_eq_true hs) h⟩
end METH
