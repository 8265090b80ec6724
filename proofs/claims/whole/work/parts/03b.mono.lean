/-! no cell goes -/
section MONO
variable {xs : Nat → Int} {L w rt : Nat} {ph : Bool} {r : Int × Mem} {Rk : Ky} {C : Cy}
theorem m_ifC {cnd : ClassFile.Cond} {a b : Int} {p1 p2 : Nat} {ls : Lc} {st : List AV} {σ : Mem} (hR : ∀ pc ls st σ, Rk pc ls st σ = some r → rN σ ≤ rN r.2) (h : ifC cnd a b (Rk p1 ls st σ) (Rk p2 ls st σ) = some r) : rN σ ≤ rN r.2 := by
  unfold ifC at h
  split at h <;> (rcases ite_inv h with ⟨-, h⟩ | ⟨-, h⟩ <;> exact hR _ _ _ _ h)
theorem m_swT {pc p : Nat} {a : Int} {ls : Lc} {st : List AV} {σ : Mem} (hR : ∀ pc ls st σ, Rk pc ls st σ = some r → rN σ ≤ rN r.2) : ∀ (os : List Int) (k : Int), swT a (Rk p ls st σ) (fun o => Rk (br pc o) ls st σ) os k = some r → rN σ ≤ rN r.2
  | [], _, h => hR _ _ _ _ h
  | _ :: os, k, h => by
    rcases ite_inv h with ⟨-, h⟩ | ⟨-, h⟩
    · exact hR _ _ _ _ h
    · exact m_swT hR os _ h
theorem m_swL {pc p : Nat} {a : Int} {ls : Lc} {st : List AV} {σ : Mem} (hR : ∀ pc ls st σ, Rk pc ls st σ = some r → rN σ ≤ rN r.2) : ∀ (os : List (Int × Int)), swL a (Rk p ls st σ) (fun o => Rk (br pc o) ls st σ) os = some r → rN σ ≤ rN r.2
  | [], h => hR _ _ _ _ h
  | _ :: os, h => by
    rcases ite_inv h with ⟨-, h⟩ | ⟨-, h⟩
    · exact hR _ _ _ _ h
    · exact m_swL hR os h
theorem mono_stepI (hC : ∀ j as σ r, C j as σ = some r → rN σ ≤ rN r.2) {i : Instr} {pc n : Nat} {ls : Lc} {st : List AV} {σ : Mem} (h : stepI ph xs L w rt Rk C i pc n ls st σ = some r) (hR : ∀ pc ls st σ, Rk pc ls st σ = some r → rN σ ≤ rN r.2) : rN σ ≤ rN r.2 := by
  cases i with
  | iconst v =>
    (have h2 := hR _ _ _ _ h; exact h2)
  | bipush v =>
    (have h2 := hR _ _ _ _ h; exact h2)
  | sipush v =>
    (have h2 := hR _ _ _ _ h; exact h2)
  | lconst v =>
    (have h2 := hR _ _ _ _ h; exact h2)
  | aconst_null =>
    (have h2 := hR _ _ _ _ h; exact h2)
  | iload k =>
    obtain ⟨a, q, h⟩ := ldI_inv h
    (have h2 := hR _ _ _ _ h; exact h2)
  | iload_n k =>
    obtain ⟨a, q, h⟩ := ldI_inv h
    (have h2 := hR _ _ _ _ h; exact h2)
  | lload k =>
    obtain ⟨a, q, h⟩ := ldL_inv h
    (have h2 := hR _ _ _ _ h; exact h2)
  | lload_n k =>
    obtain ⟨a, q, h⟩ := ldL_inv h
    (have h2 := hR _ _ _ _ h; exact h2)
  | aload k =>
    obtain ⟨a, q, h⟩ := ldA_inv h
    (have h2 := hR _ _ _ _ h; exact h2)
  | aload_n k =>
    obtain ⟨a, q, h⟩ := ldA_inv h
    (have h2 := hR _ _ _ _ h; exact h2)
  | istore k =>
    obtain ⟨a, q, rfl, h⟩ := pI_inv h
    (have h2 := hR _ _ _ _ h; exact h2)
  | istore_n k =>
    obtain ⟨a, q, rfl, h⟩ := pI_inv h
    (have h2 := hR _ _ _ _ h; exact h2)
  | lstore k =>
    obtain ⟨a, q, rfl, h⟩ := pL_inv h
    (have h2 := hR _ _ _ _ h; exact h2)
  | lstore_n k =>
    obtain ⟨a, q, rfl, h⟩ := pL_inv h
    (have h2 := hR _ _ _ _ h; exact h2)
  | astore k =>
    obtain ⟨t, z, a, q, rfl, h⟩ := pR_inv h
    (have h2 := hR _ _ _ _ h; exact h2)
  | astore_n k =>
    obtain ⟨t, z, a, q, rfl, h⟩ := pR_inv h
    (have h2 := hR _ _ _ _ h; exact h2)
  | iinc k v =>
    obtain ⟨a, q, h⟩ := ldI_inv h
    (have h2 := hR _ _ _ _ h; exact h2)
  | iadd =>
    obtain ⟨a, b, q, rfl, h⟩ := pII_inv h
    (have h2 := hR _ _ _ _ h; exact h2)
  | isub =>
    obtain ⟨a, b, q, rfl, h⟩ := pII_inv h
    (have h2 := hR _ _ _ _ h; exact h2)
  | imul =>
    obtain ⟨a, b, q, rfl, h⟩ := pII_inv h
    (have h2 := hR _ _ _ _ h; exact h2)
  | iand =>
    obtain ⟨a, b, q, rfl, h⟩ := pII_inv h
    (have h2 := hR _ _ _ _ h; exact h2)
  | ior =>
    obtain ⟨a, b, q, rfl, h⟩ := pII_inv h
    (have h2 := hR _ _ _ _ h; exact h2)
  | ixor =>
    obtain ⟨a, b, q, rfl, h⟩ := pII_inv h
    (have h2 := hR _ _ _ _ h; exact h2)
  | ishl =>
    obtain ⟨a, b, q, rfl, h⟩ := pII_inv h
    (have h2 := hR _ _ _ _ h; exact h2)
  | ishr =>
    obtain ⟨a, b, q, rfl, h⟩ := pII_inv h
    (have h2 := hR _ _ _ _ h; exact h2)
  | iushr =>
    obtain ⟨a, b, q, rfl, h⟩ := pII_inv h
    (have h2 := hR _ _ _ _ h; exact h2)
  | idiv =>
    obtain ⟨a, b, q, rfl, h⟩ := pII_inv h
    rcases ite_inv h with ⟨hc, h⟩ | ⟨hc, h⟩
    · cases h
    · (have h2 := hR _ _ _ _ h; exact h2)
  | irem =>
    obtain ⟨a, b, q, rfl, h⟩ := pII_inv h
    rcases ite_inv h with ⟨hc, h⟩ | ⟨hc, h⟩
    · cases h
    · (have h2 := hR _ _ _ _ h; exact h2)
  | ladd =>
    obtain ⟨a, b, q, rfl, h⟩ := pLL_inv h
    (have h2 := hR _ _ _ _ h; exact h2)
  | lsub =>
    obtain ⟨a, b, q, rfl, h⟩ := pLL_inv h
    (have h2 := hR _ _ _ _ h; exact h2)
  | lmul =>
    obtain ⟨a, b, q, rfl, h⟩ := pLL_inv h
    (have h2 := hR _ _ _ _ h; exact h2)
  | land =>
    obtain ⟨a, b, q, rfl, h⟩ := pLL_inv h
    (have h2 := hR _ _ _ _ h; exact h2)
  | lcmp =>
    obtain ⟨a, b, q, rfl, h⟩ := pLL_inv h
    (have h2 := hR _ _ _ _ h; exact h2)
  | ldiv =>
    obtain ⟨a, b, q, rfl, h⟩ := pLL_inv h
    rcases ite_inv h with ⟨hc, h⟩ | ⟨hc, h⟩
    · cases h
    · (have h2 := hR _ _ _ _ h; exact h2)
  | lrem =>
    obtain ⟨a, b, q, rfl, h⟩ := pLL_inv h
    rcases ite_inv h with ⟨hc, h⟩ | ⟨hc, h⟩
    · cases h
    · (have h2 := hR _ _ _ _ h; exact h2)
  | ineg =>
    obtain ⟨a, q, rfl, h⟩ := pI_inv h
    (have h2 := hR _ _ _ _ h; exact h2)
  | i2l =>
    obtain ⟨a, q, rfl, h⟩ := pI_inv h
    (have h2 := hR _ _ _ _ h; exact h2)
  | l2i =>
    obtain ⟨a, q, rfl, h⟩ := pL_inv h
    (have h2 := hR _ _ _ _ h; exact h2)
  | dup =>
    simp only [stepI] at h
    split at h
    · next v q =>
      cases hc : cat2 v with
      | true => simp only [hc, cond_true] at h; cases h
      | false => simp only [hc, cond_false] at h; (have h2 := hR _ _ _ _ h; exact h2)
    · cases h
  | pop =>
    simp only [stepI] at h
    split at h
    · next v q =>
      cases hc : cat2 v with
      | true => simp only [hc, cond_true] at h; cases h
      | false => simp only [hc, cond_false] at h; (have h2 := hR _ _ _ _ h; exact h2)
    · cases h
  | dup2 =>
    simp only [stepI] at h
    split at h
    · next v u q =>
      cases hc : cat2 v with
      | true => simp only [hc, cond_true] at h; (have h2 := hR _ _ _ _ h; exact h2)
      | false =>
        cases hd2 : cat2 u with
        | true => simp only [hc, hd2, cond_true, cond_false] at h; cases h
        | false => simp only [hc, hd2, cond_false] at h; (have h2 := hR _ _ _ _ h; exact h2)
    · next v =>
      obtain ⟨hc, h⟩ := bif_inv h
      (have h2 := hR _ _ _ _ h; exact h2)
    · cases h
  | goto off =>
    (have h2 := hR _ _ _ _ h; exact h2)
  | ifCond cnd off =>
    obtain ⟨a, q, rfl, h⟩ := pI_inv h
    replace h : ifC cnd a 0 (Rk (br pc off) ls q σ) (Rk (pc + n) ls q σ) = some r := h
    cases cnd with
    | eq => exact m_ifC hR h
    | ne => exact m_ifC hR h
    | lt => exact m_ifC hR h
    | ge => exact m_ifC hR h
    | gt => exact m_ifC hR h
    | le => exact m_ifC hR h
  | if_icmp cnd off =>
    obtain ⟨a, b, q, rfl, h⟩ := pII_inv h
    replace h : ifC cnd a b (Rk (br pc off) ls q σ) (Rk (pc + n) ls q σ) = some r := h
    cases cnd with
    | eq => exact m_ifC hR h
    | ne => exact m_ifC hR h
    | lt => exact m_ifC hR h
    | ge => exact m_ifC hR h
    | gt => exact m_ifC hR h
    | le => exact m_ifC hR h
  | ifnull off =>
    simp only [stepI] at h
    split at h
    · (have h2 := hR _ _ _ _ h; exact h2)
    · (have h2 := hR _ _ _ _ h; exact h2)
    · cases h
  | tableswitch dd lo hi2 offs =>
    obtain ⟨a, q, rfl, h⟩ := pI_inv h
    obtain ⟨hc, h⟩ := bif_inv h
    simp only [Bool.and_eq_true, beq_iff_eq, decide_eq_true_eq] at hc
    replace h : swT a (Rk (br pc dd) ls q σ) (fun o => Rk (br pc o) ls q σ) offs.toList lo = some r := h
    exact m_swT hR _ _ h
  | lookupswitch dd ps =>
    obtain ⟨a, q, rfl, h⟩ := pI_inv h
    obtain ⟨hc, h⟩ := bif_inv h
    replace h : swL a (Rk (br pc dd) ls q σ) (fun o => Rk (br pc o) ls q σ) ps.toList = some r := h
    exact m_swL hR _ h
  | ldc k =>
    cases e : cstT w k with
    | none => simp only [stepI, e] at h; cases h
    | some q =>
      simp only [stepI, e] at h
      split at h
      · next z heq =>
        cases heq
        (have h2 := hR _ _ _ _ h; exact h2)
      · next z heq =>
        cases heq
        (have h2 := hR _ _ _ _ h; exact h2)
      · cases h
  | ldc_w k =>
    cases e : cstT w k with
    | none => simp only [stepI, e] at h; cases h
    | some q =>
      simp only [stepI, e] at h
      split at h
      · next z heq =>
        cases heq
        (have h2 := hR _ _ _ _ h; exact h2)
      · cases h
  | ldc2_w k =>
    cases e : cstT w k with
    | none => simp only [stepI, e] at h; cases h
    | some q =>
      simp only [stepI, e] at h
      split at h
      · next z heq =>
        cases heq
        (have h2 := hR _ _ _ _ h; exact h2)
      · cases h
  | getfield k =>
    obtain ⟨t, z, a, q, rfl, -⟩ := pR_inv h
    cases e : fldT w k with
    | none => simp only [stepI, pR, e] at h; cases h
    | some y =>
      obtain ⟨c2, f⟩ := y
      simp only [stepI, pR, e] at h
      obtain ⟨hc, h⟩ := bif_inv h
      rw [← Nat.eq_of_beq_eq_true hc] at e h
      (have h2 := hR _ _ _ _ h; exact h2)
  | putfield k =>
    simp only [stepI] at h
    split at h
    · next v t z a q =>
      cases e : fldT w k with
      | none => simp only [e] at h; cases h
      | some y =>
        obtain ⟨c2, f⟩ := y
        simp only [e] at h
        have hh0 := bif_inv h
        clear h
        obtain ⟨hc, h⟩ := hh0
        rw [← Nat.eq_of_beq_eq_true hc] at e h
        generalize eF : fkT t f = qf at h
        unfold putF at h
        split at h
        · (have h2 := hR _ _ _ _ h; exact h2)
        · (have h2 := hR _ _ _ _ h; exact h2)
        · rcases ite_inv h with ⟨hc2, h⟩ | ⟨hc2, h⟩
          · (have h2 := hR _ _ _ _ h; exact h2)
          · cases h
        · have hh := bif_inv h
          clear h
          obtain ⟨hc2, h⟩ := hh
          simp only [Bool.and_eq_true, Nat.beq_eq] at hc2
          obtain ⟨rfl, rfl⟩ := hc2
          (have h2 := hR _ _ _ _ h; exact h2)
        · have hh := bif_inv h
          clear h
          obtain ⟨hc2, h⟩ := hh
          simp only [Bool.and_eq_true, Nat.beq_eq, Bool.not_eq_true'] at hc2
          obtain ⟨⟨⟨h4, htw⟩, hph⟩, rfl, rfl⟩ := hc2
          (have h2 := hR _ _ _ _ h; exact h2)
        · cases h
    · cases h
  | arraylength =>
    obtain ⟨t, z, a, q, rfl, -⟩ := pR_inv h
    simp only [stepI, pR] at h
    split at h
    · (have h2 := hR _ _ _ _ h; exact h2)
    · (have h2 := hR _ _ _ _ h; exact h2)
    · (have h2 := hR _ _ _ _ h; exact h2)
    · (have h2 := hR _ _ _ _ h; exact h2)
    · cases h
  | iaload =>
    simp only [stepI] at h
    split at h
    · obtain ⟨hc, h⟩ := inB_inv h
      (have h2 := hR _ _ _ _ h; exact h2)
    · obtain ⟨hc, h⟩ := inB_inv h
      (have h2 := hR _ _ _ _ h; exact h2)
    · cases h
  | caload =>
    simp only [stepI] at h
    split at h
    · obtain ⟨hc, h⟩ := inB_inv h
      (have h2 := hR _ _ _ _ h; exact h2)
    · cases h
  | laload =>
    simp only [stepI] at h
    split at h
    · obtain ⟨hc, h⟩ := inB_inv h
      (have h2 := hR _ _ _ _ h; exact h2)
    · cases h
  | iastore =>
    simp only [stepI] at h
    split at h
    · obtain ⟨hc, h⟩ := inB_inv h
      (have h2 := hR _ _ _ _ h; exact h2)
    · cases h
  | lastore =>
    simp only [stepI] at h
    split at h
    · obtain ⟨hc, h⟩ := inB_inv h
      (have h2 := hR _ _ _ _ h; exact h2)
    · cases h
  | castore =>
    simp only [stepI] at h
    split at h
    · rcases ite_inv h with ⟨hv, h⟩ | ⟨hv, h⟩
      · obtain ⟨hc, h⟩ := inB_inv h
        (have h2 := hR _ _ _ _ h; exact h2)
      · cases h
    · cases h
  | aaload =>
    simp only [stepI] at h
    split at h
    · next i2 t z a q =>
      cases e : innT t with
      | none => simp only [e] at h; cases h
      | some y =>
        simp only [e] at h
        obtain ⟨hc, h⟩ := inB_inv h
        obtain ⟨hp, h⟩ := bif_inv h
        (have h2 := hR _ _ _ _ h; exact h2)
    · cases h
  | new k =>
    cases e : newT w k with
    | none => simp only [stepI, e] at h; cases h
    | some c2 =>
      simp only [stepI, e] at h
      obtain ⟨hc, h⟩ := bif_inv h
      simp only [Bool.and_eq_true, Bool.not_eq_true'] at hc
      (have h2 := hR _ _ _ _ h; exact Nat.le_of_succ_le h2)
  | newarray ty =>
    obtain ⟨a, q, rfl, h⟩ := pI_inv h
    obtain ⟨hc, h⟩ := bif_inv h
    simp only [Bool.and_eq_true, Bool.not_eq_true', decide_eq_true_eq] at hc
    (have h2 := hR _ _ _ _ h; exact Nat.le_of_succ_le h2)
  | multianewarray k dm =>
    simp only [stepI] at h
    split at h
    any_goals (first | (cases h; done) | skip)
    all_goals first
      | (rename_i heq; cases heq; done)
      | (rename_i k' heq
         cases heq
         obtain ⟨a, b, q, rfl, h⟩ := pII_inv h
         cases e2 : mulT w k with
         | none => simp only [e2] at h; cases h
         | some t =>
           simp only [e2] at h
           obtain ⟨hc, h⟩ := bif_inv h
           simp only [Bool.and_eq_true, Bool.not_eq_true', decide_eq_true_eq] at hc
           (have h2 := hR _ _ _ _ h; have h3 : rN σ + 1 + a.toNat ≤ rN r.2 := h2; omega))
  | invokestatic k =>
    cases e2 : mthT w k with
    | none => simp only [stepI, e2] at h; cases h
    | some y =>
      simp only [stepI, e2] at h
      split at h
      · next heq =>
        cases heq
        split at h
        · next z dp dn d' sp sn s' r' =>
          cases ho : okR r' with
          | false => simp only [ho, Bool.not_false, cond_true] at h; cases h
          | true =>
            simp only [ho, Bool.not_true, cond_false] at h
            rcases ite_inv h with ⟨hc, h⟩ | ⟨hc, h⟩
            · (have h2 := hR _ _ _ _ h; exact h2)
            · cases h
        · cases h
      · next j na rk hne heq =>
        cases heq
        obtain ⟨hc, h⟩ := bif_inv h
        obtain ⟨p1, e3, h⟩ := g1_call h
        simp only [Bool.and_eq_true] at hc
        exact Nat.le_trans (hC _ _ _ _ e3) (hR _ _ _ _ h)
      · cases h
  | invokevirtual k =>
    cases e2 : mthT w k with
    | none => simp only [stepI, e2] at h; cases h
    | some y =>
      obtain ⟨j, na, rk, c2⟩ := y
      simp only [stepI, e2] at h
      split at h
      · next t z a q e3 =>
        have hh := bif_inv h
        clear h
        obtain ⟨hc, hh⟩ := hh
        have hg := g1_call hh
        clear hh
        obtain ⟨p1, e4, h⟩ := hg
        simp only [Bool.and_eq_true, Bool.not_eq_true', Nat.beq_eq] at hc
        obtain ⟨⟨rfl, hini⟩, hr, ha⟩ := hc
        exact Nat.le_trans (hC _ _ _ _ e4) (hR _ _ _ _ h)
      · cases h
  | invokespecial k =>
    cases e2 : mthT w k with
    | none => simp only [stepI, e2] at h; cases h
    | some y =>
      obtain ⟨j, na, rk, c2⟩ := y
      simp only [stepI, e2] at h
      split at h
      · next heq =>
        cases heq
        obtain ⟨t, z, a, q, rfl, h⟩ := pR_inv h
        obtain ⟨hc, h⟩ := bif_inv h
        (have h2 := hR _ _ _ _ h; exact h2)
      · next j' na' rk' c' hne heq =>
        cases heq
        split at h
        · next t z a q e3 =>
          have hh := bif_inv h
          clear h
          obtain ⟨hc, hh⟩ := hh
          have hg := g1_call hh
          clear hh
          obtain ⟨p1, e4, h⟩ := hg
          simp only [Bool.and_eq_true, Nat.beq_eq] at hc
          obtain ⟨⟨rfl, hini⟩, hr, ha⟩ := hc
          exact Nat.le_trans (hC _ _ _ _ e4) (hR _ _ _ _ h)
        · cases h
      · cases h
  | return_ =>
    simp only [stepI] at h
    split at h
    · cases h; exact Nat.le_refl _
    · cases h; exact Nat.le_refl _
    · cases h
  | ireturn =>
    simp only [stepI] at h
    split at h
    · cases h; exact Nat.le_refl _
    · rcases ite_inv h with ⟨hc, h⟩ | ⟨hc, h⟩
      · cases h; exact Nat.le_refl _
      · cases h
    · cases h
  | lreturn =>
    simp only [stepI] at h
    split at h
    · cases h; exact Nat.le_refl _
    · cases h
  | _ => cases h
theorem mono_exec {cd : CT Ent} (hC : ∀ j as σ r, C j as σ = some r → rN σ ≤ rN r.2) : ∀ (k pc : Nat) (ls : Lc) (st : List AV) (σ : Mem), execF ph xs L w rt cd C k pc ls st σ = some r → rN σ ≤ rN r.2
  | 0, _, _, _, _, h => by cases h
  | k + 1, pc, ls, st, σ, h => by
    unfold execF stepF at h
    split at h
    · cases h
    · exact mono_stepI hC h (fun pc ls st σ => mono_exec hC k pc ls st σ)
theorem mono_run {cd : CT Ent} (hC : ∀ j as σ r, C j as σ = some r → rN σ ≤ rN r.2) {pc : Nat} {ls : Lc} {st : List AV} {σ : Mem} (h : runF ph xs L w rt cd C pc ls st σ = some r) : rN σ ≤ rN r.2 := by
  obtain ⟨k, h⟩ := run_iff.mp h
  exact mono_exec hC k _ _ _ _ h
end MONO
