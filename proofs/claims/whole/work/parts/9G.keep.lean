/-! behind the constructors no cell is made -/
section KEEP
variable {xs : Nat → Int} {L w rt : Nat} {ph : Bool} {r : Int × Mem} {Rk : Ky} {C : Cy}
theorem km_ifC {cnd : ClassFile.Cond} {a b : Int} {p1 p2 : Nat} {ls : Lc} {st : List AV} {σ : Mem} (hR : ∀ pc ls st σ, Rk pc ls st σ = some r → rN r.2 = rN σ) (h : ifC cnd a b (Rk p1 ls st σ) (Rk p2 ls st σ) = some r) : rN r.2 = rN σ := by
  unfold ifC at h
  split at h <;> (rcases ite_inv h with ⟨-, h⟩ | ⟨-, h⟩ <;> exact hR _ _ _ _ h)
theorem km_swT {pc p : Nat} {a : Int} {ls : Lc} {st : List AV} {σ : Mem} (hR : ∀ pc ls st σ, Rk pc ls st σ = some r → rN r.2 = rN σ) : ∀ (os : List Int) (k : Int), swT a (Rk p ls st σ) (fun o => Rk (br pc o) ls st σ) os k = some r → rN r.2 = rN σ
  | [], _, h => hR _ _ _ _ h
  | _ :: os, k, h => by
    rcases ite_inv h with ⟨-, h⟩ | ⟨-, h⟩
    · exact hR _ _ _ _ h
    · exact km_swT hR os _ h
theorem km_swL {pc p : Nat} {a : Int} {ls : Lc} {st : List AV} {σ : Mem} (hR : ∀ pc ls st σ, Rk pc ls st σ = some r → rN r.2 = rN σ) : ∀ (os : List (Int × Int)), swL a (Rk p ls st σ) (fun o => Rk (br pc o) ls st σ) os = some r → rN r.2 = rN σ
  | [], h => hR _ _ _ _ h
  | _ :: os, h => by
    rcases ite_inv h with ⟨-, h⟩ | ⟨-, h⟩
    · exact hR _ _ _ _ h
    · exact km_swL hR os h
theorem keep_stepI (hp1 : ph = true) (hC : ∀ j as σ r, C j as σ = some r → rN r.2 = rN σ) {i : Instr} {pc n : Nat} {ls : Lc} {st : List AV} {σ : Mem} (h : stepI ph xs L w rt Rk C i pc n ls st σ = some r) (hR : ∀ pc ls st σ, Rk pc ls st σ = some r → rN r.2 = rN σ) : rN r.2 = rN σ := by
  cases i with
  | iconst v =>
    (have h2 := hR _ _ _ _ h; exact h2)
  | bipush v =>
    (have h2 := hR _ _ _ _ h; exact h2)
  | sipush v =>
    (have h2 := hR _ _ _ _ h; exact h2)
  | lconst v =>
    (have h2 := hR _ _ _ _ h; exact h2)
  | aconst_null =>
    (have h2 := hR _ _ _ _ h; exact h2)
  | iload k =>
    obtain ⟨a, q, h⟩ := ldI_inv h
    (have h2 := hR _ _ _ _ h; exact h2)
  | iload_n k =>
    obtain ⟨a, q, h⟩ := ldI_inv h
    (have h2 := hR _ _ _ _ h; exact h2)
  | lload k =>
    obtain ⟨a, q, h⟩ := ldL_inv h
    (have h2 := hR _ _ _ _ h; exact h2)
  | lload_n k =>
    obtain ⟨a, q, h⟩ := ldL_inv h
    (have h2 := hR _ _ _ _ h; exact h2)
  | aload k =>
    obtain ⟨a, q, h⟩ := ldA_inv h
    (have h2 := hR _ _ _ _ h; exact h2)
  | aload_n k =>
    obtain ⟨a, q, h⟩ := ldA_inv h
    (have h2 := hR _ _ _ _ h; exact h2)
  | istore k =>
    obtain ⟨a, q, rfl, h⟩ := pI_inv h
    (have h2 := hR _ _ _ _ h; exact h2)
  | istore_n k =>
    obtain ⟨a, q, rfl, h⟩ := pI_inv h
    (have h2 := hR _ _ _ _ h; exact h2)
  | lstore k =>
    obtain ⟨a, q, rfl, h⟩ := pL_inv h
    (have h2 := hR _ _ _ _ h; exact h2)
  | lstore_n k =>
    obtain ⟨a, q, rfl, h⟩ := pL_inv h
    (have h2 := hR _ _ _ _ h; exact h2)
  | astore k =>
    obtain ⟨t, z, a, q, rfl, h⟩ := pR_inv h
    (have h2 := hR _ _ _ _ h; exact h2)
  | astore_n k =>
    obtain ⟨t, z, a, q, rfl, h⟩ := pR_inv h
    (have h2 := hR _ _ _ _ h; exact h2)
  | iinc k v =>
    obtain ⟨a, q, h⟩ := ldI_inv h
    (have h2 := hR _ _ _ _ h; exact h2)
  | iadd =>
    obtain ⟨a, b, q, rfl, h⟩ := pII_inv h
    (have h2 := hR _ _ _ _ h; exact h2)
  | isub =>
    obtain ⟨a, b, q, rfl, h⟩ := pII_inv h
    (have h2 := hR _ _ _ _ h; exact h2)
  | imul =>
    obtain ⟨a, b, q, rfl, h⟩ := pII_inv h
    (have h2 := hR _ _ _ _ h; exact h2)
  | iand =>
    obtain ⟨a, b, q, rfl, h⟩ := pII_inv h
    (have h2 := hR _ _ _ _ h; exact h2)
  | ior =>
    obtain ⟨a, b, q, rfl, h⟩ := pII_inv h
    (have h2 := hR _ _ _ _ h; exact h2)
  | ixor =>
    obtain ⟨a, b, q, rfl, h⟩ := pII_inv h
    (have h2 := hR _ _ _ _ h; exact h2)
  | ishl =>
    obtain ⟨a, b, q, rfl, h⟩ := pII_inv h
    (have h2 := hR _ _ _ _ h; exact h2)
  | ishr =>
    obtain ⟨a, b, q, rfl, h⟩ := pII_inv h
    (have h2 := hR _ _ _ _ h; exact h2)
  | iushr =>
    obtain ⟨a, b, q, rfl, h⟩ := pII_inv h
    (have h2 := hR _ _ _ _ h; exact h2)
  | idiv =>
    obtain ⟨a, b, q, rfl, h⟩ := pII_inv h
    rcases ite_inv h with ⟨hc, h⟩ | ⟨hc, h⟩
    · cases h
    · (have h2 := hR _ _ _ _ h; exact h2)
  | irem =>
    obtain ⟨a, b, q, rfl, h⟩ := pII_inv h
    rcases ite_inv h with ⟨hc, h⟩ | ⟨hc, h⟩
    · cases h
    · (have h2 := hR _ _ _ _ h; exact h2)
  | ladd =>
    obtain ⟨a, b, q, rfl, h⟩ := pLL_inv h
    (have h2 := hR _ _ _ _ h; exact h2)
  | lsub =>
    obtain ⟨a, b, q, rfl, h⟩ := pLL_inv h
    (have h2 := hR _ _ _ _ h; exact h2)
  | lmul =>
    obtain ⟨a, b, q, rfl, h⟩ := pLL_inv h
    (have h2 := hR _ _ _ _ h; exact h2)
  | land =>
    obtain ⟨a, b, q, rfl, h⟩ := pLL_inv h
    (have h2 := hR _ _ _ _ h; exact h2)
  | lcmp =>
    obtain ⟨a, b, q, rfl, h⟩ := pLL_inv h
    (have h2 := hR _ _ _ _ h; exact h2)
  | ldiv =>
    obtain ⟨a, b, q, rfl, h⟩ := pLL_inv h
    rcases ite_inv h with ⟨hc, h⟩ | ⟨hc, h⟩
    · cases h
    · (have h2 := hR _ _ _ _ h; exact h2)
  | lrem =>
    obtain ⟨a, b, q, rfl, h⟩ := pLL_inv h
    rcases ite_inv h with ⟨hc, h⟩ | ⟨hc, h⟩
    · cases h
    · (have h2 := hR _ _ _ _ h; exact h2)
  | ineg =>
    obtain ⟨a, q, rfl, h⟩ := pI_inv h
    (have h2 := hR _ _ _ _ h; exact h2)
  | i2l =>
    obtain ⟨a, q, rfl, h⟩ := pI_inv h
    (have h2 := hR _ _ _ _ h; exact h2)
  | l2i =>
    obtain ⟨a, q, rfl, h⟩ := pL_inv h
    (have h2 := hR _ _ _ _ h; exact h2)
  | dup =>
    simp only [stepI] at h
    split at h
    · next v q =>
      cases hc : cat2 v with
      | true => simp only [hc, cond_true] at h; cases h
      | false => simp only [hc, cond_false] at h; (have h2 := hR _ _ _ _ h; exact h2)
    · cases h
  | pop =>
    simp only [stepI] at h
    split at h
    · next v q =>
      cases hc : cat2 v with
      | true => simp only [hc, cond_true] at h; cases h
      | false => simp only [hc, cond_false] at h; (have h2 := hR _ _ _ _ h; exact h2)
    · cases h
  | dup2 =>
    simp only [stepI] at h
    split at h
    · next v u q =>
      cases hc : cat2 v with
      | true => simp only [hc, cond_true] at h; (have h2 := hR _ _ _ _ h; exact h2)
      | false =>
        cases hd2 : cat2 u with
        | true => simp only [hc, hd2, cond_true, cond_false] at h; cases h
        | false => simp only [hc, hd2, cond_false] at h; (have h2 := hR _ _ _ _ h; exact h2)
    · next v =>
      obtain ⟨hc, h⟩ := bif_inv h
      (have h2 := hR _ _ _ _ h; exact h2)
    · cases h
  | goto off =>
    (have h2 := hR _ _ _ _ h; exact h2)
  | ifCond cnd off =>
    obtain ⟨a, q, rfl, h⟩ := pI_inv h
    replace h : ifC cnd a 0 (Rk (br pc off) ls q σ) (Rk (pc + n) ls q σ) = some r := h
    cases cnd with
    | eq => exact km_ifC hR h
    | ne => exact km_ifC hR h
    | lt => exact km_ifC hR h
    | ge => exact km_ifC hR h
    | gt => exact km_ifC hR h
    | le => exact km_ifC hR h
  | if_icmp cnd off =>
    obtain ⟨a, b, q, rfl, h⟩ := pII_inv h
    replace h : ifC cnd a b (Rk (br pc off) ls q σ) (Rk (pc + n) ls q σ) = some r := h
    cases cnd with
    | eq => exact km_ifC hR h
    | ne => exact km_ifC hR h
    | lt => exact km_ifC hR h
    | ge => exact km_ifC hR h
    | gt => exact km_ifC hR h
    | le => exact km_ifC hR h
  | ifnull off =>
    simp only [stepI] at h
    split at h
    · (have h2 := hR _ _ _ _ h; exact h2)
    · (have h2 := hR _ _ _ _ h; exact h2)
    · cases h
  | tableswitch dd lo hi2 offs =>
    obtain ⟨a, q, rfl, h⟩ := pI_inv h
    obtain ⟨hc, h⟩ := bif_inv h
    simp only [Bool.and_eq_true, beq_iff_eq, decide_eq_true_eq] at hc
    replace h : swT a (Rk (br pc dd) ls q σ) (fun o => Rk (br pc o) ls q σ) offs.toList lo = some r := h
    exact km_swT hR _ _ h
  | lookupswitch dd ps =>
    obtain ⟨a, q, rfl, h⟩ := pI_inv h
    obtain ⟨hc, h⟩ := bif_inv h
    replace h : swL a (Rk (br pc dd) ls q σ) (fun o => Rk (br pc o) ls q σ) ps.toList = some r := h
    exact km_swL hR _ h
  | ldc k =>
    cases e : cstT w k with
    | none => simp only [stepI, e] at h; cases h
    | some q =>
      simp only [stepI, e] at h
      split at h
      · next z heq =>
        cases heq
        (have h2 := hR _ _ _ _ h; exact h2)
      · next z heq =>
        cases heq
        (have h2 := hR _ _ _ _ h; exact h2)
      · cases h
  | ldc_w k =>
    cases e : cstT w k with
    | none => simp only [stepI, e] at h; cases h
    | some q =>
      simp only [stepI, e] at h
      split at h
      · next z heq =>
        cases heq
        (have h2 := hR _ _ _ _ h; exact h2)
      · cases h
  | ldc2_w k =>
    cases e : cstT w k with
    | none => simp only [stepI, e] at h; cases h
    | some q =>
      simp only [stepI, e] at h
      split at h
      · next z heq =>
        cases heq
        (have h2 := hR _ _ _ _ h; exact h2)
      · cases h
  | getfield k =>
    obtain ⟨t, z, a, q, rfl, -⟩ := pR_inv h
    cases e : fldT w k with
    | none => simp only [stepI, pR, e] at h; cases h
    | some y =>
      obtain ⟨c2, f⟩ := y
      simp only [stepI, pR, e] at h
      obtain ⟨hc, h⟩ := bif_inv h
      rw [← Nat.eq_of_beq_eq_true hc] at e h
      (have h2 := hR _ _ _ _ h; exact h2)
  | putfield k =>
    simp only [stepI] at h
    split at h
    · next v t z a q =>
      cases e : fldT w k with
      | none => simp only [e] at h; cases h
      | some y =>
        obtain ⟨c2, f⟩ := y
        simp only [e] at h
        have hh0 := bif_inv h
        clear h
        obtain ⟨hc, h⟩ := hh0
        rw [← Nat.eq_of_beq_eq_true hc] at e h
        generalize eF : fkT t f = qf at h
        unfold putF at h
        split at h
        · (have h2 := hR _ _ _ _ h; exact h2)
        · (have h2 := hR _ _ _ _ h; exact h2)
        · rcases ite_inv h with ⟨hc2, h⟩ | ⟨hc2, h⟩
          · (have h2 := hR _ _ _ _ h; exact h2)
          · cases h
        · have hh := bif_inv h
          clear h
          obtain ⟨hc2, h⟩ := hh
          simp only [Bool.and_eq_true, Nat.beq_eq] at hc2
          obtain ⟨rfl, rfl⟩ := hc2
          (have h2 := hR _ _ _ _ h; exact h2)
        · have hh := bif_inv h
          clear h
          obtain ⟨hc2, h⟩ := hh
          simp only [Bool.and_eq_true, Nat.beq_eq, Bool.not_eq_true'] at hc2
          obtain ⟨⟨⟨h4, htw⟩, hph⟩, rfl, rfl⟩ := hc2
          (have h2 := hR _ _ _ _ h; exact h2)
        · cases h
    · cases h
  | arraylength =>
    obtain ⟨t, z, a, q, rfl, -⟩ := pR_inv h
    simp only [stepI, pR] at h
    split at h
    · (have h2 := hR _ _ _ _ h; exact h2)
    · (have h2 := hR _ _ _ _ h; exact h2)
    · (have h2 := hR _ _ _ _ h; exact h2)
    · (have h2 := hR _ _ _ _ h; exact h2)
    · cases h
  | iaload =>
    simp only [stepI] at h
    split at h
    · obtain ⟨hc, h⟩ := inB_inv h
      (have h2 := hR _ _ _ _ h; exact h2)
    · obtain ⟨hc, h⟩ := inB_inv h
      (have h2 := hR _ _ _ _ h; exact h2)
    · cases h
  | caload =>
    simp only [stepI] at h
    split at h
    · obtain ⟨hc, h⟩ := inB_inv h
      (have h2 := hR _ _ _ _ h; exact h2)
    · cases h
  | laload =>
    simp only [stepI] at h
    split at h
    · obtain ⟨hc, h⟩ := inB_inv h
      (have h2 := hR _ _ _ _ h; exact h2)
    · cases h
  | iastore =>
    simp only [stepI] at h
    split at h
    · obtain ⟨hc, h⟩ := inB_inv h
      (have h2 := hR _ _ _ _ h; exact h2)
    · cases h
  | lastore =>
    simp only [stepI] at h
    split at h
    · obtain ⟨hc, h⟩ := inB_inv h
      (have h2 := hR _ _ _ _ h; exact h2)
    · cases h
  | castore =>
    simp only [stepI] at h
    split at h
    · rcases ite_inv h with ⟨hv, h⟩ | ⟨hv, h⟩
      · obtain ⟨hc, h⟩ := inB_inv h
        (have h2 := hR _ _ _ _ h; exact h2)
      · cases h
    · cases h
  | aaload =>
    simp only [stepI] at h
    split at h
    · next i2 t z a q =>
      cases e : innT t with
      | none => simp only [e] at h; cases h
      | some y =>
        simp only [e] at h
        obtain ⟨hc, h⟩ := inB_inv h
        obtain ⟨hp, h⟩ := bif_inv h
        (have h2 := hR _ _ _ _ h; exact h2)
    · cases h
  | new k =>
    cases e : newT w k with
    | none => simp only [stepI, e] at h; cases h
    | some c2 =>
      simp only [stepI, e] at h
      obtain ⟨hc, h⟩ := bif_inv h
      simp only [Bool.and_eq_true, Bool.not_eq_true'] at hc
      exact absurd (hp1.symm.trans hc.1) (by decide)
  | newarray ty =>
    obtain ⟨a, q, rfl, h⟩ := pI_inv h
    obtain ⟨hc, h⟩ := bif_inv h
    simp only [Bool.and_eq_true, Bool.not_eq_true', decide_eq_true_eq] at hc
    exact absurd (hp1.symm.trans hc.1) (by decide)
  | multianewarray k dm =>
    simp only [stepI] at h
    split at h
    any_goals (first | (cases h; done) | skip)
    all_goals first
      | (rename_i heq; cases heq; done)
      | (rename_i k' heq
         cases heq
         obtain ⟨a, b, q, rfl, h⟩ := pII_inv h
         cases e2 : mulT w k with
         | none => simp only [e2] at h; cases h
         | some t =>
           simp only [e2] at h
           obtain ⟨hc, h⟩ := bif_inv h
           simp only [Bool.and_eq_true, Bool.not_eq_true', decide_eq_true_eq] at hc
           exact absurd (hp1.symm.trans hc.1) (by decide))
  | invokestatic k =>
    cases e2 : mthT w k with
    | none => simp only [stepI, e2] at h; cases h
    | some y =>
      simp only [stepI, e2] at h
      split at h
      · next heq =>
        cases heq
        split at h
        · next z dp dn d' sp sn s' r' =>
          cases ho : okR r' with
          | false => simp only [ho, Bool.not_false, cond_true] at h; cases h
          | true =>
            simp only [ho, Bool.not_true, cond_false] at h
            rcases ite_inv h with ⟨hc, h⟩ | ⟨hc, h⟩
            · (have h2 := hR _ _ _ _ h; exact h2)
            · cases h
        · cases h
      · next j na rk hne heq =>
        cases heq
        obtain ⟨hc, h⟩ := bif_inv h
        obtain ⟨p1, e3, h⟩ := g1_call h
        simp only [Bool.and_eq_true] at hc
        exact (hR _ _ _ _ h).trans (hC _ _ _ _ e3)
      · cases h
  | invokevirtual k =>
    cases e2 : mthT w k with
    | none => simp only [stepI, e2] at h; cases h
    | some y =>
      obtain ⟨j, na, rk, c2⟩ := y
      simp only [stepI, e2] at h
      split at h
      · next t z a q e3 =>
        have hh := bif_inv h
        clear h
        obtain ⟨hc, hh⟩ := hh
        have hg := g1_call hh
        clear hh
        obtain ⟨p1, e4, h⟩ := hg
        simp only [Bool.and_eq_true, Bool.not_eq_true', Nat.beq_eq] at hc
        obtain ⟨⟨rfl, hini⟩, hr, ha⟩ := hc
        exact (hR _ _ _ _ h).trans (hC _ _ _ _ e4)
      · cases h
  | invokespecial k =>
    cases e2 : mthT w k with
    | none => simp only [stepI, e2] at h; cases h
    | some y =>
      obtain ⟨j, na, rk, c2⟩ := y
      simp only [stepI, e2] at h
      split at h
      · next heq =>
        cases heq
        obtain ⟨t, z, a, q, rfl, h⟩ := pR_inv h
        obtain ⟨hc, h⟩ := bif_inv h
        (have h2 := hR _ _ _ _ h; exact h2)
      · next j' na' rk' c' hne heq =>
        cases heq
        split at h
        · next t z a q e3 =>
          have hh := bif_inv h
          clear h
          obtain ⟨hc, hh⟩ := hh
          have hg := g1_call hh
          clear hh
          obtain ⟨p1, e4, h⟩ := hg
          simp only [Bool.and_eq_true, Nat.beq_eq] at hc
          obtain ⟨⟨rfl, hini⟩, hr, ha⟩ := hc
          exact (hR _ _ _ _ h).trans (hC _ _ _ _ e4)
        · cases h
      · cases h
  | return_ =>
    simp only [stepI] at h
    split at h
    · cases h; exact rfl
    · cases h; exact rfl
    · cases h
  | ireturn =>
    simp only [stepI] at h
    split at h
    · cases h; exact rfl
    · rcases ite_inv h with ⟨hc, h⟩ | ⟨hc, h⟩
      · cases h; exact rfl
      · cases h
    · cases h
  | lreturn =>
    simp only [stepI] at h
    split at h
    · cases h; exact rfl
    · cases h
  | _ => cases h
theorem keep_exec (hp1 : ph = true) {cd : CT Ent} (hC : ∀ j as σ r, C j as σ = some r → rN r.2 = rN σ) : ∀ (k pc : Nat) (ls : Lc) (st : List AV) (σ : Mem), execF ph xs L w rt cd C k pc ls st σ = some r → rN r.2 = rN σ
  | 0, _, _, _, _, h => by cases h
  | k + 1, pc, ls, st, σ, h => by
    unfold execF stepF at h
    split at h
    · cases h
    · exact keep_stepI hp1 hC h (fun pc ls st σ => keep_exec hp1 hC k pc ls st σ)
theorem keep_run (hp1 : ph = true) {cd : CT Ent} (hC : ∀ j as σ r, C j as σ = some r → rN r.2 = rN σ) {pc : Nat} {ls : Lc} {st : List AV} {σ : Mem} (h : runF ph xs L w rt cd C pc ls st σ = some r) : rN r.2 = rN σ := by
  obtain ⟨k, h⟩ := run_iff.mp h
  exact keep_exec hp1 hC k _ _ _ _ h
end KEEP
theorem cS_keep {xs : Nat → Int} {L : Nat} : ∀ (d j : Nat) (as : List AV) (σ : Mem) (r : Int × Mem), cS true xs L d j as σ = some r → rN r.2 = rN σ
  | 0, _, _, _, _, h => by cases h
  | d + 1, j, as, σ, r, h => by
    unfold cS at h
    by_cases h900 : j = 900
    · subst h900
      simp only [show Nat.beq 900 900 = true from rfl, cond_true] at h
      split at h
      · cases h; exact rfl
      · cases h
    · rw [beq_ff h900, cond_false] at h
      by_cases h901 : j = 901
      · subst h901
        simp only [show Nat.beq 901 901 = true from rfl, cond_true] at h
        split at h
        · rcases ite_inv h with ⟨-, h⟩ | ⟨-, h⟩
          · cases h; exact rfl
          · cases h
        · cases h
      · rw [beq_ff h901, cond_false] at h
        split at h
        · cases h
        · obtain ⟨-, h⟩ := bif_inv h
          exact keep_run rfl (fun j as σ r => cS_keep d j as σ r) h
theorem cE_mono (K : Nat) : ∀ (d j : Nat) (as : List AV) (σ : Mem) (r : Int × Mem), cE K d j as σ = some r → rN σ ≤ rN r.2
  | 0, _, _, _, _, h => by cases h
  | d + 1, j, as, σ, r, h => by
    unfold cE at h
    split at h
    · cases h
    · obtain ⟨-, h⟩ := bif_inv h
      exact mono_exec (fun j as σ r => cE_mono K d j as σ r) K _ _ _ _ h
theorem callE_ok {l : Launch} (K : Nat) : ∀ d : Nat, CallOk (cE K d) l false (d + 4)
  | 0 => by intro j as σ r h; cases h
  | d + 1 => by
    intro j as σ r h
    have hmono := cE_mono K (d + 1) j as σ r h
    unfold cE at h
    split at h
    · cases h
    · next w rt ml cd e =>
      obtain ⟨hs, h⟩ := bif_inv h
      simp only [Bool.and_eq_true] at hs
      have hj : j < 900 := met_lt e
      refine ⟨Or.inl hj, hmono, fun hj hinf => ?_, fun q => by omega, fun q => by omega⟩
      rcases mf_all _ (ctGet_mem e) with hl | hMF
      · exact absurd (by rw [show j = _ from hl]; decide +kernel) hinf
      · obtain ⟨y, b, ret, hi⟩ := inf_of hMF
        exact ⟨w, rt, ml, cd, y, b, ret, e, hMF, hi, met_of hMF hi (callE_ok K d) (Nat.le_of_ble_eq_true hs.1) (run_iff.mpr ⟨K, h⟩)⟩
