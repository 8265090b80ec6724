section SOUND
variable {p : Program} {l : Launch} {e : Env} {R : Room} {s : State} {m : MethodId} {args : Array Value} {below : List Frame} {meth : Method} {c : Code} {w rt ml : Nat} {cc : ByteArray} {Dg : va_G} {cA : Nat → ClassId} {B : BS} {scr : Prop} {xs : Nat → Int} {L : Nat} {d : Nat} {ph : Bool} {n0 : Nat} {Q : State → Prop} {r : Int × Mem}
theorem swT_at {x : Int} {D : Rs} {go : Int → Rs} {r : Int × Mem} : ∀ (os : List Int) (k : Int), swT x D go os k = some r → (∃ (i : Nat) (v : Int), os[i]? = some v ∧ x = k + i ∧ go v = some r) ∨ ((x < k ∨ k + os.length ≤ x) ∧ D = some r)
  | [], k, h => Or.inr ⟨by simp only [List.length_nil]; omega, h⟩
  | v :: os, k, h => by
    rcases ite_inv h with ⟨hc, h⟩ | ⟨hc, h⟩
    · exact Or.inl ⟨0, v, rfl, by omega, h⟩
    · rcases swT_at os (k + 1) h with ⟨i, u, e1, e2, e3⟩ | ⟨e1, e2⟩
      · exact Or.inl ⟨i + 1, u, e1, by omega, e3⟩
      · exact Or.inr ⟨by simp only [List.length_cons]; omega, e2⟩
theorem swL_at {x dd : Int} {go : Int → Rs} {r : Int × Mem} : ∀ (os : List (Int × Int)), swL x (go dd) go os = some r → ∃ o : Int, (o = dd ∨ ∃ q ∈ os, q.2 = o) ∧ Op.lookupswitch.offset os dd x = o ∧ go o = some r
  | [], h => ⟨dd, Or.inl rfl, rfl, h⟩
  | (k, v) :: os, h => by
    rcases ite_inv h with ⟨hc, h⟩ | ⟨hc, h⟩
    · exact ⟨v, Or.inr ⟨_, List.mem_cons_self, rfl⟩, by rw [Op.lookupswitch.offset_cons, if_pos hc.symm], h⟩
    · obtain ⟨u, e1, e2, e3⟩ := swL_at os h
      refine ⟨u, ?_, by rw [Op.lookupswitch.offset_cons, if_neg (Ne.symm hc)]; exact e2, e3⟩
      rcases e1 with e1 | ⟨q, q1, q2⟩
      · exact Or.inl e1
      · exact Or.inr ⟨q, List.mem_cons_of_mem _ q1, q2⟩
theorem br_eq {pc : Nat} {off : Int} (h : 0 ≤ (pc : Int) + off) : (pc : Int) + off = ((br pc off : Nat) : Int) := by unfold br; omega
theorem k_tsw {Rk : Ky} (C0 : CX p s m args meth c w rt ml cc Dg cA B scr xs L R d n0 r) {pc n : Nat} {ls : Lc} {st : List AV} {σ : Mem} {a dd lo hi : Int} {offs : Array Int} (hd : decode cc pc = .ok (.tableswitch dd lo hi offs, n)) (hl : offs.toList.length = (hi - lo + 1).toNat) (hlh : lo ≤ hi) (hb1 : 0 ≤ (pc : Int) + dd) (hb2 : ∀ o ∈ offs.toList, 0 ≤ (pc : Int) + o) (h : swT a (Rk (br pc dd) ls st σ) (fun o => Rk (br pc o) ls st σ) offs.toList lo = some r) (hR : ∀ pc ls st σ, Rk pc ls st σ = some r → AK p l e R s m args below meth c ml Dg cA B scr ph n0 Q r pc ls st σ) : AK p l e R s m args below meth c ml Dg cA B scr ph n0 Q r pc ls (.inl a :: st) σ := by
  obtain ⟨hx, hcc, -⟩ := C0
  rcases swT_at _ _ h with ⟨i, v, e1, e2, e3⟩ | ⟨e1, e2⟩
  · have hk := hR _ _ _ _ e3
    refine ⟨hk.1, fun H locs lsR hn rel => ?_⟩
    have hrg : rng32 a := rel.top (.inl a) List.mem_cons_self
    have hto : (Int32.ofInt a).toInt = a := t32 hrg
    have hil : i < offs.toList.length := (List.getElem?_eq_some_iff.mp e1).1
    refine lv_tableIn hx hcc hd (by rw [hto]; omega) (by rw [hto]; omega) (off := v) (tgt := br pc v) ?_ (br_eq (hb2 v (List.mem_of_getElem? e1))) (hk.2 H locs lsR hn (rel.stk fun u hu => rel.top u (List.mem_cons_of_mem _ hu)))
    rw [hto, show (a - lo).toNat = i by omega, ← Array.getElem?_toList]
    exact e1
  · have hk := hR _ _ _ _ e2
    refine ⟨hk.1, fun H locs lsR hn rel => ?_⟩
    have hrg : rng32 a := rel.top (.inl a) List.mem_cons_self
    have hto : (Int32.ofInt a).toInt = a := t32 hrg
    exact lv_tableOut hx hcc hd (by rw [hto]; omega) (br_eq hb1) (hk.2 H locs lsR hn (rel.stk fun u hu => rel.top u (List.mem_cons_of_mem _ hu)))
theorem k_lsw {Rk : Ky} (C0 : CX p s m args meth c w rt ml cc Dg cA B scr xs L R d n0 r) {pc n : Nat} {ls : Lc} {st : List AV} {σ : Mem} {a dd : Int} {ps : Array (Int × Int)} (hd : decode cc pc = .ok (.lookupswitch dd ps, n)) (hp : (ps.toList.zip (ps.toList.drop 1)).all (fun (a, next) => a.1 < next.1) = true) (hb1 : 0 ≤ (pc : Int) + dd) (hb2 : ∀ o ∈ ps.toList, 0 ≤ (pc : Int) + o.2) (h : swL a (Rk (br pc dd) ls st σ) (fun o => Rk (br pc o) ls st σ) ps.toList = some r) (hR : ∀ pc ls st σ, Rk pc ls st σ = some r → AK p l e R s m args below meth c ml Dg cA B scr ph n0 Q r pc ls st σ) : AK p l e R s m args below meth c ml Dg cA B scr ph n0 Q r pc ls (.inl a :: st) σ := by
  obtain ⟨hx, hcc, -⟩ := C0
  obtain ⟨v, e1, e2, e3⟩ := swL_at (go := fun o => Rk (br pc o) ls st σ) _ h
  have hk := hR _ _ _ _ e3
  refine ⟨hk.1, fun H locs lsR hn rel => ?_⟩
  have hrg : rng32 a := rel.top (.inl a) List.mem_cons_self
  have hto : (Int32.ofInt a).toInt = a := t32 hrg
  refine lv_lookup hx hcc hd hp (off := v) (tgt := br pc v) (by rw [hto]; exact e2) (br_eq ?_) (hk.2 H locs lsR hn (rel.stk fun u hu => rel.top u (List.mem_cons_of_mem _ hu)))
  rcases e1 with rfl | ⟨q, q1, rfl⟩
  · exact hb1
  · exact hb2 q q1
theorem g_ifC {Rk : Ky} {cnd : ClassFile.Cond} {a b : Int} {p1 p2 : Nat} {ls : Lc} {st : List AV} {σ : Mem} {P : Nat → Lc → List AV → Mem → Prop} (hR : ∀ pc ls st σ, Rk pc ls st σ = some r → rN σ ≤ rN r.2 ∧ P pc ls st σ) (h : ifC cnd a b (Rk p1 ls st σ) (Rk p2 ls st σ) = some r) : rN σ ≤ rN r.2 := by
  unfold ifC at h
  split at h <;> (rcases ite_inv h with ⟨-, h⟩ | ⟨-, h⟩ <;> exact (hR _ _ _ _ h).1)
theorem met_lt {j : Nat} {x : Nat × Nat × Nat × CT Ent} (h : ctGet metL j = some x) : j < 900 := by
  have hB : metL.flatten.all (fun q => Nat.blt q.1 900) = true := by decide +kernel
  exact Nat.lt_of_lt_of_le (Nat.le_of_ble_eq_true (List.all_eq_true.mp hB _ (ctGet_mem h))) (Nat.le_refl _)
theorem ini_lt {j : Nat} (h : isIni j = true) : j < 900 := by
  unfold isIni at h
  split at h
  · next e => exact met_lt e
  · cases h
theorem step_sound {C : Cy} {Rk : Ky} (C0 : CX p s m args meth c w rt ml cc Dg cA B scr xs L R d n0 r) (hC : CallOk C l ph d) {i : Instr} {pc n : Nat} {ls : Lc} {st : List AV} {σ : Mem} (hd : decode cc pc = .ok (i, n)) (hi : insOk ml pc i n = true) (h : stepI ph xs L w rt Rk C i pc n ls st σ = some r) (hR : ∀ pc ls st σ, Rk pc ls st σ = some r → AK p l e R s m args below meth c ml Dg cA B scr ph n0 (MQR Dg cA B ph rt n0 r below args s) r pc ls st σ) : AK p l e R s m args below meth c ml Dg cA B scr ph n0 (MQR Dg cA B ph rt n0 r below args s) r pc ls st σ := by
  cases i with
  | iconst v =>
    simp only [insOk, Bool.and_eq_true, decide_eq_true_eq, Nat.beq_eq, Nat.blt_eq] at hi
    obtain ⟨rfl, h1, h2⟩ := hi
    exact k_iconst C0 h1 h2 hd (hR _ _ _ _ h)
  | bipush v =>
    simp only [insOk, Bool.and_eq_true, decide_eq_true_eq, Nat.beq_eq, Nat.blt_eq] at hi
    obtain ⟨rfl, h1, h2⟩ := hi
    exact k_bipush C0 h1 h2 hd (hR _ _ _ _ h)
  | sipush v =>
    simp only [insOk, Bool.and_eq_true, decide_eq_true_eq, Nat.beq_eq, Nat.blt_eq] at hi
    obtain ⟨rfl, h1, h2⟩ := hi
    exact k_sipush C0 h1 h2 hd (hR _ _ _ _ h)
  | lconst v =>
    simp only [insOk, Bool.and_eq_true, decide_eq_true_eq, Nat.beq_eq, Nat.blt_eq] at hi
    subst hi
    exact k_lconst C0 hd (hR _ _ _ _ h)
  | aconst_null =>
    simp only [insOk, Bool.and_eq_true, decide_eq_true_eq, Nat.beq_eq, Nat.blt_eq] at hi
    subst hi
    exact k_null C0 hd (hR _ _ _ _ h)
  | iload k =>
    simp only [insOk, Bool.and_eq_true, decide_eq_true_eq, Nat.beq_eq, Nat.blt_eq] at hi
    subst hi
    obtain ⟨a, q, h⟩ := ldI_inv h
    exact k_iload C0 hd q (hR _ _ _ _ h)
  | iload_n k =>
    simp only [insOk, Bool.and_eq_true, decide_eq_true_eq, Nat.beq_eq, Nat.blt_eq] at hi
    subst hi
    obtain ⟨a, q, h⟩ := ldI_inv h
    exact k_iload_n C0 hd q (hR _ _ _ _ h)
  | lload k =>
    simp only [insOk, Bool.and_eq_true, decide_eq_true_eq, Nat.beq_eq, Nat.blt_eq] at hi
    subst hi
    obtain ⟨a, q, h⟩ := ldL_inv h
    exact k_lload C0 hd q (hR _ _ _ _ h)
  | lload_n k =>
    simp only [insOk, Bool.and_eq_true, decide_eq_true_eq, Nat.beq_eq, Nat.blt_eq] at hi
    subst hi
    obtain ⟨a, q, h⟩ := ldL_inv h
    exact k_lload_n C0 hd q (hR _ _ _ _ h)
  | aload k =>
    simp only [insOk, Bool.and_eq_true, decide_eq_true_eq, Nat.beq_eq, Nat.blt_eq] at hi
    subst hi
    obtain ⟨a, q, h⟩ := ldA_inv h
    exact k_aload C0 hd q (hR _ _ _ _ h)
  | aload_n k =>
    simp only [insOk, Bool.and_eq_true, decide_eq_true_eq, Nat.beq_eq, Nat.blt_eq] at hi
    subst hi
    obtain ⟨a, q, h⟩ := ldA_inv h
    exact k_aload_n C0 hd q (hR _ _ _ _ h)
  | istore k =>
    simp only [insOk, Bool.and_eq_true, decide_eq_true_eq, Nat.beq_eq, Nat.blt_eq] at hi
    obtain ⟨rfl, hm⟩ := hi
    obtain ⟨a, q, rfl, h⟩ := pI_inv h
    exact k_istore C0 hd hm (hR _ _ _ _ h)
  | istore_n k =>
    simp only [insOk, Bool.and_eq_true, decide_eq_true_eq, Nat.beq_eq, Nat.blt_eq] at hi
    obtain ⟨rfl, hm⟩ := hi
    obtain ⟨a, q, rfl, h⟩ := pI_inv h
    exact k_istore_n C0 hd hm (hR _ _ _ _ h)
  | lstore k =>
    simp only [insOk, Bool.and_eq_true, decide_eq_true_eq, Nat.beq_eq, Nat.blt_eq] at hi
    obtain ⟨rfl, hm⟩ := hi
    obtain ⟨a, q, rfl, h⟩ := pL_inv h
    exact k_lstore C0 hd hm (hR _ _ _ _ h)
  | lstore_n k =>
    simp only [insOk, Bool.and_eq_true, decide_eq_true_eq, Nat.beq_eq, Nat.blt_eq] at hi
    obtain ⟨rfl, hm⟩ := hi
    obtain ⟨a, q, rfl, h⟩ := pL_inv h
    exact k_lstore_n C0 hd hm (hR _ _ _ _ h)
  | astore k =>
    simp only [insOk, Bool.and_eq_true, decide_eq_true_eq, Nat.beq_eq, Nat.blt_eq] at hi
    obtain ⟨rfl, hm⟩ := hi
    obtain ⟨t, z, a, q, rfl, h⟩ := pR_inv h
    exact k_astore C0 hd hm (hR _ _ _ _ h)
  | astore_n k =>
    simp only [insOk, Bool.and_eq_true, decide_eq_true_eq, Nat.beq_eq, Nat.blt_eq] at hi
    obtain ⟨rfl, hm⟩ := hi
    obtain ⟨t, z, a, q, rfl, h⟩ := pR_inv h
    exact k_astore_n C0 hd hm (hR _ _ _ _ h)
  | iinc k v =>
    simp only [insOk, Bool.and_eq_true, decide_eq_true_eq, Nat.beq_eq, Nat.blt_eq] at hi
    obtain ⟨rfl, hm, -⟩ := hi
    obtain ⟨a, q, h⟩ := ldI_inv h
    exact k_iinc C0 hd hm q (hR _ _ _ _ h)
  | iadd =>
    simp only [insOk, Bool.and_eq_true, decide_eq_true_eq, Nat.beq_eq, Nat.blt_eq] at hi
    subst hi
    obtain ⟨a, b, q, rfl, h⟩ := pII_inv h
    exact k_iadd C0 hd (hR _ _ _ _ h)
  | isub =>
    simp only [insOk, Bool.and_eq_true, decide_eq_true_eq, Nat.beq_eq, Nat.blt_eq] at hi
    subst hi
    obtain ⟨a, b, q, rfl, h⟩ := pII_inv h
    exact k_isub C0 hd (hR _ _ _ _ h)
  | imul =>
    simp only [insOk, Bool.and_eq_true, decide_eq_true_eq, Nat.beq_eq, Nat.blt_eq] at hi
    subst hi
    obtain ⟨a, b, q, rfl, h⟩ := pII_inv h
    exact k_imul C0 hd (hR _ _ _ _ h)
  | iand =>
    simp only [insOk, Bool.and_eq_true, decide_eq_true_eq, Nat.beq_eq, Nat.blt_eq] at hi
    subst hi
    obtain ⟨a, b, q, rfl, h⟩ := pII_inv h
    exact k_iand C0 hd (hR _ _ _ _ h)
  | ior =>
    simp only [insOk, Bool.and_eq_true, decide_eq_true_eq, Nat.beq_eq, Nat.blt_eq] at hi
    subst hi
    obtain ⟨a, b, q, rfl, h⟩ := pII_inv h
    exact k_ior C0 hd (hR _ _ _ _ h)
  | ixor =>
    simp only [insOk, Bool.and_eq_true, decide_eq_true_eq, Nat.beq_eq, Nat.blt_eq] at hi
    subst hi
    obtain ⟨a, b, q, rfl, h⟩ := pII_inv h
    exact k_ixor C0 hd (hR _ _ _ _ h)
  | ishl =>
    simp only [insOk, Bool.and_eq_true, decide_eq_true_eq, Nat.beq_eq, Nat.blt_eq] at hi
    subst hi
    obtain ⟨a, b, q, rfl, h⟩ := pII_inv h
    exact k_ishl C0 hd (hR _ _ _ _ h)
  | ishr =>
    simp only [insOk, Bool.and_eq_true, decide_eq_true_eq, Nat.beq_eq, Nat.blt_eq] at hi
    subst hi
    obtain ⟨a, b, q, rfl, h⟩ := pII_inv h
    exact k_ishr C0 hd (hR _ _ _ _ h)
  | iushr =>
    simp only [insOk, Bool.and_eq_true, decide_eq_true_eq, Nat.beq_eq, Nat.blt_eq] at hi
    subst hi
    obtain ⟨a, b, q, rfl, h⟩ := pII_inv h
    exact k_iushr C0 hd (hR _ _ _ _ h)
  | idiv =>
    simp only [insOk, Bool.and_eq_true, decide_eq_true_eq, Nat.beq_eq, Nat.blt_eq] at hi
    subst hi
    obtain ⟨a, b, q, rfl, h⟩ := pII_inv h
    rcases ite_inv h with ⟨hc, h⟩ | ⟨hc, h⟩
    · cases h
    · exact k_idiv C0 hd hc (hR _ _ _ _ h)
  | irem =>
    simp only [insOk, Bool.and_eq_true, decide_eq_true_eq, Nat.beq_eq, Nat.blt_eq] at hi
    subst hi
    obtain ⟨a, b, q, rfl, h⟩ := pII_inv h
    rcases ite_inv h with ⟨hc, h⟩ | ⟨hc, h⟩
    · cases h
    · exact k_irem C0 hd hc (hR _ _ _ _ h)
  | ladd =>
    simp only [insOk, Bool.and_eq_true, decide_eq_true_eq, Nat.beq_eq, Nat.blt_eq] at hi
    subst hi
    obtain ⟨a, b, q, rfl, h⟩ := pLL_inv h
    exact k_ladd C0 hd (hR _ _ _ _ h)
  | lsub =>
    simp only [insOk, Bool.and_eq_true, decide_eq_true_eq, Nat.beq_eq, Nat.blt_eq] at hi
    subst hi
    obtain ⟨a, b, q, rfl, h⟩ := pLL_inv h
    exact k_lsub C0 hd (hR _ _ _ _ h)
  | lmul =>
    simp only [insOk, Bool.and_eq_true, decide_eq_true_eq, Nat.beq_eq, Nat.blt_eq] at hi
    subst hi
    obtain ⟨a, b, q, rfl, h⟩ := pLL_inv h
    exact k_lmul C0 hd (hR _ _ _ _ h)
  | land =>
    simp only [insOk, Bool.and_eq_true, decide_eq_true_eq, Nat.beq_eq, Nat.blt_eq] at hi
    subst hi
    obtain ⟨a, b, q, rfl, h⟩ := pLL_inv h
    exact k_land C0 hd (hR _ _ _ _ h)
  | lcmp =>
    simp only [insOk, Bool.and_eq_true, decide_eq_true_eq, Nat.beq_eq, Nat.blt_eq] at hi
    subst hi
    obtain ⟨a, b, q, rfl, h⟩ := pLL_inv h
    exact k_lcmp C0 hd (hR _ _ _ _ h)
  | ldiv =>
    simp only [insOk, Bool.and_eq_true, decide_eq_true_eq, Nat.beq_eq, Nat.blt_eq] at hi
    subst hi
    obtain ⟨a, b, q, rfl, h⟩ := pLL_inv h
    rcases ite_inv h with ⟨hc, h⟩ | ⟨hc, h⟩
    · cases h
    · exact k_ldiv C0 hd hc (hR _ _ _ _ h)
  | lrem =>
    simp only [insOk, Bool.and_eq_true, decide_eq_true_eq, Nat.beq_eq, Nat.blt_eq] at hi
    subst hi
    obtain ⟨a, b, q, rfl, h⟩ := pLL_inv h
    rcases ite_inv h with ⟨hc, h⟩ | ⟨hc, h⟩
    · cases h
    · exact k_lrem C0 hd hc (hR _ _ _ _ h)
  | ineg =>
    simp only [insOk, Bool.and_eq_true, decide_eq_true_eq, Nat.beq_eq, Nat.blt_eq] at hi
    subst hi
    obtain ⟨a, q, rfl, h⟩ := pI_inv h
    exact k_ineg C0 hd (hR _ _ _ _ h)
  | i2l =>
    simp only [insOk, Bool.and_eq_true, decide_eq_true_eq, Nat.beq_eq, Nat.blt_eq] at hi
    subst hi
    obtain ⟨a, q, rfl, h⟩ := pI_inv h
    exact k_i2l C0 hd (hR _ _ _ _ h)
  | l2i =>
    simp only [insOk, Bool.and_eq_true, decide_eq_true_eq, Nat.beq_eq, Nat.blt_eq] at hi
    subst hi
    obtain ⟨a, q, rfl, h⟩ := pL_inv h
    exact k_l2i C0 hd (hR _ _ _ _ h)
  | dup =>
    simp only [insOk, Bool.and_eq_true, decide_eq_true_eq, Nat.beq_eq, Nat.blt_eq] at hi
    subst hi
    simp only [stepI] at h
    split at h
    · next v q =>
      cases hc : cat2 v with
      | true => simp only [hc, cond_true] at h; cases h
      | false => simp only [hc, cond_false] at h; exact k_dup C0 hd hc (hR _ _ _ _ h)
    · cases h
  | pop =>
    simp only [insOk, Bool.and_eq_true, decide_eq_true_eq, Nat.beq_eq, Nat.blt_eq] at hi
    subst hi
    simp only [stepI] at h
    split at h
    · next v q =>
      cases hc : cat2 v with
      | true => simp only [hc, cond_true] at h; cases h
      | false => simp only [hc, cond_false] at h; exact k_pop C0 hd hc (hR _ _ _ _ h)
    · cases h
  | dup2 =>
    simp only [insOk, Bool.and_eq_true, decide_eq_true_eq, Nat.beq_eq, Nat.blt_eq] at hi
    subst hi
    simp only [stepI] at h
    split at h
    · next v u q =>
      cases hc : cat2 v with
      | true => simp only [hc, cond_true] at h; exact k_dup2_2 C0 hd hc (hR _ _ _ _ h)
      | false =>
        cases hd2 : cat2 u with
        | true => simp only [hc, hd2, cond_true, cond_false] at h; cases h
        | false => simp only [hc, hd2, cond_false] at h; exact k_dup2_11 C0 hd hc hd2 (hR _ _ _ _ h)
    · next v =>
      obtain ⟨hc, h⟩ := bif_inv h
      exact k_dup2_2 C0 hd hc (hR _ _ _ _ h)
    · cases h
  | goto off =>
    simp only [insOk, Bool.and_eq_true, decide_eq_true_eq, Nat.beq_eq, Nat.blt_eq] at hi
    obtain ⟨rfl, ho⟩ := hi
    exact k_goto C0 hd ho (hR _ _ _ _ h)
  | ifCond cnd off =>
    simp only [insOk, Bool.and_eq_true, decide_eq_true_eq, Nat.beq_eq, Nat.blt_eq] at hi
    obtain ⟨rfl, ho⟩ := hi
    obtain ⟨a, q, rfl, h⟩ := pI_inv h
    replace h : ifC cnd a 0 (Rk (br pc off) ls q σ) (Rk (pc + 3) ls q σ) = some r := h
    cases cnd with
    | eq => exact k_if_eq C0 hd ho (g_ifC hR h) (fun hc2 => hR _ _ _ _ (by rw [← h]; exact (if_pos hc2).symm)) (fun hc2 => hR _ _ _ _ (by rw [← h]; exact (if_neg hc2).symm))
    | ne => exact k_if_ne C0 hd ho (g_ifC hR h) (fun hc2 => hR _ _ _ _ (by rw [← h]; exact (if_neg hc2).symm)) (fun hc2 => hR _ _ _ _ (by rw [← h]; exact (if_pos hc2).symm))
    | lt => exact k_if_lt C0 hd ho (g_ifC hR h) (fun hc2 => hR _ _ _ _ (by rw [← h]; exact (if_pos hc2).symm)) (fun hc2 => hR _ _ _ _ (by rw [← h]; exact (if_neg hc2).symm))
    | ge => exact k_if_ge C0 hd ho (g_ifC hR h) (fun hc2 => hR _ _ _ _ (by rw [← h]; exact (if_neg hc2).symm)) (fun hc2 => hR _ _ _ _ (by rw [← h]; exact (if_pos hc2).symm))
    | gt => exact k_if_gt C0 hd ho (g_ifC hR h) (fun hc2 => hR _ _ _ _ (by rw [← h]; exact (if_pos hc2).symm)) (fun hc2 => hR _ _ _ _ (by rw [← h]; exact (if_neg hc2).symm))
    | le => exact k_if_le C0 hd ho (g_ifC hR h) (fun hc2 => hR _ _ _ _ (by rw [← h]; exact (if_neg hc2).symm)) (fun hc2 => hR _ _ _ _ (by rw [← h]; exact (if_pos hc2).symm))
  | if_icmp cnd off =>
    simp only [insOk, Bool.and_eq_true, decide_eq_true_eq, Nat.beq_eq, Nat.blt_eq] at hi
    obtain ⟨rfl, ho⟩ := hi
    obtain ⟨a, b, q, rfl, h⟩ := pII_inv h
    replace h : ifC cnd a b (Rk (br pc off) ls q σ) (Rk (pc + 3) ls q σ) = some r := h
    cases cnd with
    | eq => exact k_icmp_eq C0 hd ho (g_ifC hR h) (fun hc2 => hR _ _ _ _ (by rw [← h]; exact (if_pos hc2).symm)) (fun hc2 => hR _ _ _ _ (by rw [← h]; exact (if_neg hc2).symm))
    | ne => exact k_icmp_ne C0 hd ho (g_ifC hR h) (fun hc2 => hR _ _ _ _ (by rw [← h]; exact (if_neg hc2).symm)) (fun hc2 => hR _ _ _ _ (by rw [← h]; exact (if_pos hc2).symm))
    | lt => exact k_icmp_lt C0 hd ho (g_ifC hR h) (fun hc2 => hR _ _ _ _ (by rw [← h]; exact (if_pos hc2).symm)) (fun hc2 => hR _ _ _ _ (by rw [← h]; exact (if_neg hc2).symm))
    | ge => exact k_icmp_ge C0 hd ho (g_ifC hR h) (fun hc2 => hR _ _ _ _ (by rw [← h]; exact (if_neg hc2).symm)) (fun hc2 => hR _ _ _ _ (by rw [← h]; exact (if_pos hc2).symm))
    | gt => exact k_icmp_gt C0 hd ho (g_ifC hR h) (fun hc2 => hR _ _ _ _ (by rw [← h]; exact (if_pos hc2).symm)) (fun hc2 => hR _ _ _ _ (by rw [← h]; exact (if_neg hc2).symm))
    | le => exact k_icmp_le C0 hd ho (g_ifC hR h) (fun hc2 => hR _ _ _ _ (by rw [← h]; exact (if_neg hc2).symm)) (fun hc2 => hR _ _ _ _ (by rw [← h]; exact (if_pos hc2).symm))
  | ifnull off =>
    simp only [insOk, Bool.and_eq_true, decide_eq_true_eq, Nat.beq_eq, Nat.blt_eq] at hi
    obtain ⟨rfl, ho⟩ := hi
    simp only [stepI] at h
    split at h
    · exact k_ifnull_n C0 hd ho (hR _ _ _ _ h)
    · exact k_ifnull_r C0 hd (hR _ _ _ _ h)
    · cases h
  | tableswitch dd lo hi2 offs =>
    simp only [insOk, Bool.and_eq_true, decide_eq_true_eq, List.all_eq_true] at hi
    obtain ⟨a, q, rfl, h⟩ := pI_inv h
    obtain ⟨hc, h⟩ := bif_inv h
    simp only [Bool.and_eq_true, beq_iff_eq, decide_eq_true_eq] at hc
    replace h : swT a (Rk (br pc dd) ls q σ) (fun o => Rk (br pc o) ls q σ) offs.toList lo = some r := h
    exact k_tsw C0 hd hc.1 hc.2 hi.1 hi.2 h hR
  | lookupswitch dd ps =>
    simp only [insOk, Bool.and_eq_true, decide_eq_true_eq, List.all_eq_true] at hi
    obtain ⟨a, q, rfl, h⟩ := pI_inv h
    obtain ⟨hc, h⟩ := bif_inv h
    replace h : swL a (Rk (br pc dd) ls q σ) (fun o => Rk (br pc o) ls q σ) ps.toList = some r := h
    exact k_lsw C0 hd hc hi.1 hi.2 h hR
  | ldc k =>
    simp only [insOk, Bool.and_eq_true, decide_eq_true_eq, Nat.beq_eq, Nat.blt_eq] at hi
    subst hi
    cases e : cstT w k with
    | none => simp only [stepI, e] at h; cases h
    | some q =>
      simp only [stepI, e] at h
      have hK := kf_of e
      split at h
      · next z heq =>
        cases heq
        rcases hK with ⟨-, h1, h2, h3⟩ | ⟨h1, -⟩ | ⟨h1, -⟩
        · exact k_ldc C0 hd h1 ⟨h2, h3⟩ (hR _ _ _ _ h)
        · cases h1
        · cases h1
      · next z heq =>
        cases heq
        rcases hK with ⟨h1, -⟩ | ⟨-, h1, h2⟩ | ⟨h1, -⟩
        · cases h1
        · subst h2
          exact k_ldcS C0 hd h1 (hR _ _ _ _ h)
        · cases h1
      · cases h
  | ldc_w k =>
    simp only [insOk, Bool.and_eq_true, decide_eq_true_eq, Nat.beq_eq, Nat.blt_eq] at hi
    subst hi
    cases e : cstT w k with
    | none => simp only [stepI, e] at h; cases h
    | some q =>
      simp only [stepI, e] at h
      have hK := kf_of e
      split at h
      · next z heq =>
        cases heq
        rcases hK with ⟨-, h1, h2, h3⟩ | ⟨h1, -⟩ | ⟨h1, -⟩
        · exact k_ldc_w C0 hd h1 ⟨h2, h3⟩ (hR _ _ _ _ h)
        · cases h1
        · cases h1
      · cases h
  | ldc2_w k =>
    simp only [insOk, Bool.and_eq_true, decide_eq_true_eq, Nat.beq_eq, Nat.blt_eq] at hi
    subst hi
    cases e : cstT w k with
    | none => simp only [stepI, e] at h; cases h
    | some q =>
      simp only [stepI, e] at h
      have hK := kf_of e
      split at h
      · next z heq =>
        cases heq
        rcases hK with ⟨h1, -⟩ | ⟨h1, -⟩ | ⟨-, h1, h2, h3⟩
        · cases h1
        · cases h1
        · exact k_ldc2 C0 hd h1 ⟨h2, h3⟩ (hR _ _ _ _ h)
      · cases h
  | getfield k =>
    simp only [insOk, Bool.and_eq_true, decide_eq_true_eq, Nat.beq_eq, Nat.blt_eq] at hi
    subst hi
    obtain ⟨t, z, a, q, rfl, -⟩ := pR_inv h
    cases e : fldT w k with
    | none => simp only [stepI, pR, e] at h; cases h
    | some y =>
      obtain ⟨c2, f⟩ := y
      simp only [stepI, pR, e] at h
      obtain ⟨hc, h⟩ := bif_inv h
      rw [← Nat.eq_of_beq_eq_true hc] at e h
      exact k_getfield C0 hd e (hR _ _ _ _ h)
  | putfield k =>
    simp only [insOk, Bool.and_eq_true, decide_eq_true_eq, Nat.beq_eq, Nat.blt_eq] at hi
    subst hi
    simp only [stepI] at h
    split at h
    · next v t z a q =>
      cases e : fldT w k with
      | none => simp only [e] at h; cases h
      | some y =>
        obtain ⟨c2, f⟩ := y
        simp only [e] at h
        have hh0 := bif_inv h
        clear h
        obtain ⟨hc, h⟩ := hh0
        rw [← Nat.eq_of_beq_eq_true hc] at e h
        generalize eF : fkT t f = qf at h
        unfold putF at h
        split at h
        · exact k_putI C0 hd e (Or.inl (by rw [eF])) (hR _ _ _ _ h)
        · exact k_putL C0 hd e (by rw [eF]) (hR _ _ _ _ h)
        · rcases ite_inv h with ⟨hc2, h⟩ | ⟨hc2, h⟩
          · exact k_putI C0 hd e (Or.inr ⟨by rw [eF], hc2⟩) (hR _ _ _ _ h)
          · cases h
        · have hh := bif_inv h
          clear h
          obtain ⟨hc2, h⟩ := hh
          simp only [Bool.and_eq_true, Nat.beq_eq] at hc2
          obtain ⟨rfl, rfl⟩ := hc2
          exact k_putA C0 hd e eF (hR _ _ _ _ h)
        · have hh := bif_inv h
          clear h
          obtain ⟨hc2, h⟩ := hh
          simp only [Bool.and_eq_true, Nat.beq_eq, Bool.not_eq_true'] at hc2
          obtain ⟨⟨⟨h4, htw⟩, hph⟩, rfl, rfl⟩ := hc2
          exact k_putE C0 hd e eF h4 htw hph (hR _ _ _ _ h)
        · cases h
    · cases h
  | arraylength =>
    simp only [insOk, Bool.and_eq_true, decide_eq_true_eq, Nat.beq_eq, Nat.blt_eq] at hi
    subst hi
    obtain ⟨t, z, a, q, rfl, -⟩ := pR_inv h
    simp only [stepI, pR] at h
    split at h
    · exact k_slen C0 hd (hR _ _ _ _ h)
    · exact k_alen C0 hd (Or.inl rfl) (hR _ _ _ _ h)
    · exact k_alen C0 hd (Or.inr (Or.inl rfl)) (hR _ _ _ _ h)
    · exact k_alen C0 hd (Or.inr (Or.inr rfl)) (hR _ _ _ _ h)
    · cases h
  | iaload =>
    simp only [insOk, Bool.and_eq_true, decide_eq_true_eq, Nat.beq_eq, Nat.blt_eq] at hi
    subst hi
    simp only [stepI] at h
    split at h
    · obtain ⟨hc, h⟩ := inB_inv h
      exact k_iald C0 hd hc (hR _ _ _ _ h)
    · obtain ⟨hc, h⟩ := inB_inv h
      exact k_sald C0 hd hc (hR _ _ _ _ h)
    · cases h
  | caload =>
    simp only [insOk, Bool.and_eq_true, decide_eq_true_eq, Nat.beq_eq, Nat.blt_eq] at hi
    subst hi
    simp only [stepI] at h
    split at h
    · obtain ⟨hc, h⟩ := inB_inv h
      exact k_cald C0 hd hc (hR _ _ _ _ h)
    · cases h
  | laload =>
    simp only [insOk, Bool.and_eq_true, decide_eq_true_eq, Nat.beq_eq, Nat.blt_eq] at hi
    subst hi
    simp only [stepI] at h
    split at h
    · obtain ⟨hc, h⟩ := inB_inv h
      exact k_lald C0 hd hc (hR _ _ _ _ h)
    · cases h
  | iastore =>
    simp only [insOk, Bool.and_eq_true, decide_eq_true_eq, Nat.beq_eq, Nat.blt_eq] at hi
    subst hi
    simp only [stepI] at h
    split at h
    · obtain ⟨hc, h⟩ := inB_inv h
      exact k_iast C0 hd hc (hR _ _ _ _ h)
    · cases h
  | lastore =>
    simp only [insOk, Bool.and_eq_true, decide_eq_true_eq, Nat.beq_eq, Nat.blt_eq] at hi
    subst hi
    simp only [stepI] at h
    split at h
    · obtain ⟨hc, h⟩ := inB_inv h
      exact k_last C0 hd hc (hR _ _ _ _ h)
    · cases h
  | castore =>
    simp only [insOk, Bool.and_eq_true, decide_eq_true_eq, Nat.beq_eq, Nat.blt_eq] at hi
    subst hi
    simp only [stepI] at h
    split at h
    · rcases ite_inv h with ⟨hv, h⟩ | ⟨hv, h⟩
      · obtain ⟨hc, h⟩ := inB_inv h
        exact k_cast C0 hd hv hc (hR _ _ _ _ h)
      · cases h
    · cases h
  | aaload =>
    simp only [insOk, Bool.and_eq_true, decide_eq_true_eq, Nat.beq_eq, Nat.blt_eq] at hi
    subst hi
    simp only [stepI] at h
    split at h
    · next i2 t z a q =>
      cases e : innT t with
      | none => simp only [e] at h; cases h
      | some y =>
        simp only [e] at h
        obtain ⟨hc, h⟩ := inB_inv h
        obtain ⟨hp, h⟩ := bif_inv h
        exact k_aald C0 hd e hp hc (hR _ _ _ _ h)
    · cases h
  | new k =>
    simp only [insOk, Bool.and_eq_true, decide_eq_true_eq, Nat.beq_eq, Nat.blt_eq] at hi
    subst hi
    cases e : newT w k with
    | none => simp only [stepI, e] at h; cases h
    | some c2 =>
      simp only [stepI, e] at h
      obtain ⟨hc, h⟩ := bif_inv h
      simp only [Bool.and_eq_true, Bool.not_eq_true'] at hc
      exact k_new C0 hd e hc.2 hc.1 (hR _ _ _ _ h)
  | newarray ty =>
    simp only [insOk, Bool.and_eq_true, decide_eq_true_eq, Nat.beq_eq, Nat.blt_eq] at hi
    subst hi
    obtain ⟨a, q, rfl, h⟩ := pI_inv h
    obtain ⟨hc, h⟩ := bif_inv h
    simp only [Bool.and_eq_true, Bool.not_eq_true', decide_eq_true_eq] at hc
    exact k_newarray C0 hd hc.2.1 hc.2.2 hc.1 (hR _ _ _ _ h)
  | multianewarray k dm =>
    simp only [insOk, Bool.and_eq_true, decide_eq_true_eq, Nat.beq_eq, Nat.blt_eq] at hi
    subst hi
    simp only [stepI] at h
    split at h
    any_goals (first | (cases h; done) | skip)
    all_goals first
      | (rename_i heq; cases heq; done)
      | (rename_i k' heq
         cases heq
         obtain ⟨a, b, q, rfl, h⟩ := pII_inv h
         cases e2 : mulT w k with
         | none => simp only [e2] at h; cases h
         | some t =>
           simp only [e2] at h
           obtain ⟨hc, h⟩ := bif_inv h
           simp only [Bool.and_eq_true, Bool.not_eq_true', decide_eq_true_eq] at hc
           exact k_multi C0 hd e2 hc.2.1 hc.2.2.1 hc.2.2.2 hc.1 (hR _ _ _ _ h))
  | invokestatic k =>
    simp only [insOk, Bool.and_eq_true, decide_eq_true_eq, Nat.beq_eq, Nat.blt_eq] at hi
    subst hi
    cases e2 : mthT w k with
    | none => simp only [stepI, e2] at h; cases h
    | some y =>
      simp only [stepI, e2] at h
      split at h
      · next heq =>
        cases heq
        split at h
        · next z dp dn d' sp sn s' r' =>
          cases ho : okR r' with
          | false => simp only [ho, Bool.not_false, cond_true] at h; cases h
          | true =>
            simp only [ho, Bool.not_true, cond_false] at h
            rcases ite_inv h with ⟨hc, h⟩ | ⟨hc, h⟩
            · exact k_copy C0 hd e2 ho hc (hR _ _ _ _ h)
            · cases h
        · cases h
      · next j na rk hne heq =>
        cases heq
        obtain ⟨hc, h⟩ := bif_inv h
        obtain ⟨p1, e3, h⟩ := g1_call h
        simp only [Bool.and_eq_true] at hc
        have hj : j < 900 := by
          rcases (hC _ _ _ _ e3).1 with g | rfl | rfl
          · exact g
          · cases (sl_of_900 e2).1
          · cases (sl_of_901 e2).1
        exact k_callS C0 hC hd e2 hj (Nat.le_of_ble_eq_true hc.1) hc.2.1 hc.2.2 e3 (hR _ _ _ _ h)
      · cases h
  | invokevirtual k =>
    simp only [insOk, Bool.and_eq_true, decide_eq_true_eq, Nat.beq_eq, Nat.blt_eq] at hi
    subst hi
    cases e2 : mthT w k with
    | none => simp only [stepI, e2] at h; cases h
    | some y =>
      obtain ⟨j, na, rk, c2⟩ := y
      simp only [stepI, e2] at h
      split at h
      · next t z a q e3 =>
        have hh := bif_inv h
        clear h
        obtain ⟨hc, hh⟩ := hh
        have hg := g1_call hh
        clear hh
        obtain ⟨p1, e4, h⟩ := hg
        simp only [Bool.and_eq_true, Bool.not_eq_true', Nat.beq_eq] at hc
        obtain ⟨⟨rfl, hini⟩, hr, ha⟩ := hc
        rcases (hC _ _ _ _ e4).1 with hj | rfl | rfl
        · exact k_callV C0 hC hd e2 hj e3 hini hr ha e4 (hR _ _ _ _ h)
        · exact k_callLen C0 hC hd e2 e3 hr ha e4 (hR _ _ _ _ h)
        · exact k_callChr C0 hC hd e2 e3 hr ha e4 (hR _ _ _ _ h)
      · cases h
  | invokespecial k =>
    simp only [insOk, Bool.and_eq_true, decide_eq_true_eq, Nat.beq_eq, Nat.blt_eq] at hi
    subst hi
    cases e2 : mthT w k with
    | none => simp only [stepI, e2] at h; cases h
    | some y =>
      obtain ⟨j, na, rk, c2⟩ := y
      simp only [stepI, e2] at h
      split at h
      · next heq =>
        cases heq
        obtain ⟨t, z, a, q, rfl, h⟩ := pR_inv h
        obtain ⟨hc, h⟩ := bif_inv h
        exact k_objinit C0 hd e2 hc (hR _ _ _ _ h)
      · next j' na' rk' c' hne heq =>
        cases heq
        split at h
        · next t z a q e3 =>
          have hh := bif_inv h
          clear h
          obtain ⟨hc, hh⟩ := hh
          have hg := g1_call hh
          clear hh
          obtain ⟨p1, e4, h⟩ := hg
          simp only [Bool.and_eq_true, Nat.beq_eq] at hc
          obtain ⟨⟨rfl, hini⟩, hr, ha⟩ := hc
          exact k_callI C0 hC hd e2 (ini_lt hini) e3 hini hr ha e4 (hR _ _ _ _ h)
        · cases h
      · cases h
  | return_ =>
    simp only [insOk, Bool.and_eq_true, decide_eq_true_eq, Nat.beq_eq, Nat.blt_eq] at hi
    subst hi
    simp only [stepI] at h
    split at h
    · cases h; exact k_vret C0 hd (Or.inl rfl)
    · cases h; exact k_vret C0 hd (Or.inr rfl)
    · cases h
  | ireturn =>
    simp only [insOk, Bool.and_eq_true, decide_eq_true_eq, Nat.beq_eq, Nat.blt_eq] at hi
    subst hi
    simp only [stepI] at h
    split at h
    · cases h; exact k_iret C0 hd (Or.inl rfl)
    · rcases ite_inv h with ⟨hc, h⟩ | ⟨hc, h⟩
      · cases h; exact k_iret C0 hd (Or.inr ⟨rfl, hc⟩)
      · cases h
    · cases h
  | lreturn =>
    simp only [insOk, Bool.and_eq_true, decide_eq_true_eq, Nat.beq_eq, Nat.blt_eq] at hi
    subst hi
    simp only [stepI] at h
    split at h
    · cases h; exact k_lret C0 hd rfl
    · cases h
  | _ => cases h
theorem pkL_in {ls : Lc} : ∀ (is : List Nat), ∀ q ∈ pkL is ls, q ∈ ls
  | [], _, h => by cases h
  | i :: is, q, h => by
    cases e : lkL i ls with
    | none => simp only [pkL, e] at h; exact pkL_in is q h
    | some v =>
      simp only [pkL, e] at h
      rcases List.mem_cons.mp h with rfl | h
      · exact lkL_mem e
      · exact pkL_in is q h
theorem nrm_in {lab : Option (List Nat)} {ls : Lc} : ∀ q ∈ nrm lab ls, q ∈ ls := by
  intro q h
  cases lab with
  | none => exact h
  | some is => exact pkL_in is q h
theorem REL.nrm {σ : Mem} {ls : Lc} {st : List AV} {H0 H : Heap} {locs : List Loc} {lsR : Array Slot} (lab : Option (List Nat)) (h : REL ph Dg cA B scr ml H0 σ ls st H locs lsR) : REL ph Dg cA B scr ml H0 σ (nrm lab ls) st H locs lsR := by
  obtain ⟨h1, h2, h3, h4, h5, h6⟩ := h
  refine ⟨h1, h2, h3, ⟨h4.1, h4.2.1, fun q hq => ?_⟩, fun q hq => h5 q (nrm_in q hq), h6⟩
  obtain ⟨u, hu, rfl⟩ := List.mem_map.mp hq
  exact h4.2.2 _ (List.mem_map.mpr ⟨u, nrm_in u hu, rfl⟩)
theorem exec_sound {C : Cy} {cd : CT Ent} (C0 : CX p s m args meth c w rt ml cc Dg cA B scr xs L R d n0 r) (hC : CallOk C l ph d) (hck : chkCode cc ml cd = true) : ∀ (k pc : Nat) (ls : Lc) (st : List AV) (σ : Mem), execF ph xs L w rt cd C k pc ls st σ = some r → AK p l e R s m args below meth c ml Dg cA B scr ph n0 (MQR Dg cA B ph rt n0 r below args s) r pc ls st σ
  | 0, _, _, _, _, h => by cases h
  | k + 1, pc, ls, st, σ, h => by
    unfold execF stepF at h
    split at h
    · cases h
    · next i n lab e2 =>
      obtain ⟨hd, hi⟩ := chk_at hck e2
      have hk := step_sound (e := e) (below := below) C0 hC hd hi h (fun pc ls st σ => exec_sound C0 hC hck k pc ls st σ)
      exact ⟨hk.1, fun H locs lsR hn rel => hk.2 H locs lsR hn (rel.nrm lab)⟩
theorem run_sound {C : Cy} {cd : CT Ent} (C0 : CX p s m args meth c w rt ml cc Dg cA B scr xs L R d n0 r) (hC : CallOk C l ph d) (hck : chkCode cc ml cd = true) {pc : Nat} {ls : Lc} {st : List AV} {σ : Mem} (h : runF ph xs L w rt cd C pc ls st σ = some r) : AK p l e R s m args below meth c ml Dg cA B scr ph n0 (MQR Dg cA B ph rt n0 r below args s) r pc ls st σ := by
  obtain ⟨k, h⟩ := run_iff.mp h
  exact exec_sound C0 hC hck k _ _ _ _ h
end SOUND
