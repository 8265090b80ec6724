section STEP4
variable {p : Program} {l : Launch} {e : Env} {R : Room} {s : State} {m : MethodId} {args : Array Value} {below : List Frame} {meth : Method} {c : Code} {w rt ml : Nat} {cc : ByteArray} {Dg : va_G} {cA : Nat → ClassId} {B : BS} {scr : Prop} {xs : Nat → Int} {L : Nat} {d : Nat} {ph : Bool} {n0 : Nat} {Q : State → Prop} {r : Int × Mem}
def WB (Dg : va_G) (cA : Nat → ClassId) (B : BS) (ph : Bool) (r : Int × Mem) (t : State) : Prop := va_P Dg cls11 (wsE cA B.1 r.2) t.heap ∧ okM ph r.2
/-- a method's end: its answer, its cells -/
def QcR (Dg : va_G) (cA : Nat → ClassId) (B : BS) (ph : Bool) (rt : Nat) (r : Int × Mem) : Array Value → State → Outcome → State → Prop :=
  if rt = 2 then va_Ql (S := Unit) (fun x _ => x = Int64.ofInt r.1 ∧ rng64 r.1) (fun _ t => WB Dg cA B ph r t) (fun q => B.1 ≤ q)
  else if rt = 1 ∨ rt = 3 then va_Qi (S := Unit) (fun x _ => x = Int32.ofInt r.1 ∧ rng32 r.1) (fun _ t => WB Dg cA B ph r t) (fun q => B.1 ≤ q)
  else va_Qv (S := Unit) (fun _ => True) (fun _ t => WB Dg cA B ph r t) (fun q => B.1 ≤ q)
abbrev MQR (Dg : va_G) (cA : Nat → ClassId) (B : BS) (ph : Bool) (rt n0 : Nat) (r : Int × Mem) (below : List Frame) (args : Array Value) (s : State) : State → Prop := MQ below (QcR Dg cA B ph rt r) args s (rN r.2 - n0) (slN (rN r.2) - slN n0) (fun q => B.1 ≤ q)
theorem k_vret {σ : Mem} {z : Int} (C0 : CX p s m args meth c w rt ml cc Dg cA B scr xs L R d n0 (z, σ)) {pc : Nat} {ls : Lc} (hd : decode cc pc = .ok (.return_, 1)) (h : rt = 0 ∨ rt = 4) : AK p l e R s m args below meth c ml Dg cA B scr ph n0 (MQR Dg cA B ph rt n0 (z, σ) below args s) (z, σ) pc ls [] σ := by
  obtain ⟨hx, hb, hml, hown, hts, hK, hlocks, hrt, hini, hbs, hscr, hstr, hfr, hlo, hcl, hsl⟩ := C0
  refine ⟨Nat.le_refl _, fun H locs lsR hn rel => ?_⟩
  have hr : meth.sig.returnType = none := by
    unfold rtOk at hrt
    rcases h with rfl | rfl
    · split at hrt <;> first | assumption | (rename_i q; cases q) | (rename_i q _; cases q) | cases hrt
    · split at hrt <;> first | assumption | (rename_i q; cases q) | (rename_i q _; cases q) | cases hrt
  refine W.vret hx hb hr (fun t ht hW => ?_) (fun q hq => rel.2.2.1.2.2 q hq) hd hlocks
  unfold QcR
  rw [if_neg (by omega), if_neg (by omega)]
  exact ⟨⟨(), rfl, trivial, by rw [ht]; exact rel.1, rel.2.1⟩, rel.2.2.1.F ht⟩
theorem k_iret {σ : Mem} {z : Int} (C0 : CX p s m args meth c w rt ml cc Dg cA B scr xs L R d n0 (z, σ)) {pc : Nat} {ls : Lc} (hd : decode cc pc = .ok (.ireturn, 1)) (h : rt = 1 ∨ rt = 3 ∧ (z = 0 ∨ z = 1)) : AK p l e R s m args below meth c ml Dg cA B scr ph n0 (MQR Dg cA B ph rt n0 (z, σ) below args s) (z, σ) pc ls [.inl z] σ := by
  obtain ⟨hx, hb, hml, hown, hts, hK, hlocks, hrt, hini, hbs, hscr, hstr, hfr, hlo, hcl, hsl⟩ := C0
  refine ⟨Nat.le_refl _, fun H locs lsR hn rel => ?_⟩
  have g1 := (List.forall_mem_cons.mp rel.top).1
  have hq : ∀ t : State, t.heap = H → s.WarmedH t.vm → QcR Dg cA B ph rt (z, σ) args s (.returned (some (.int (Int32.ofInt z)))) t := by
    intro t ht hW
    unfold QcR
    rw [if_neg (by omega), if_pos (by omega)]
    exact ⟨⟨_, (), rfl, ⟨rfl, g1⟩, by rw [ht]; exact rel.1, rel.2.1⟩, rel.2.2.1.F ht⟩
  unfold rtOk at hrt
  rcases h with rfl | ⟨rfl, h⟩
  · have hr : meth.sig.returnType = some .int := by
      split at hrt <;> first | assumption | (rename_i q; cases q) | (rename_i q _; cases q) | cases hrt
    exact W.iret hx hb hr hq (fun q hq => rel.2.2.1.2.2 q hq) hd hlocks
  · have hr : meth.sig.returnType = some .boolean := by
      split at hrt <;> first | assumption | (rename_i q; cases q) | (rename_i q _; cases q) | cases hrt
    exact W.zret hx hb hr (by rcases h with rfl | rfl <;> rfl) hq (fun q hq => rel.2.2.1.2.2 q hq) hd hlocks
theorem k_lret {σ : Mem} {z : Int} (C0 : CX p s m args meth c w rt ml cc Dg cA B scr xs L R d n0 (z, σ)) {pc : Nat} {ls : Lc} (hd : decode cc pc = .ok (.lreturn, 1)) (h : rt = 2) : AK p l e R s m args below meth c ml Dg cA B scr ph n0 (MQR Dg cA B ph rt n0 (z, σ) below args s) (z, σ) pc ls [vl z] σ := by
  obtain ⟨hx, hb, hml, hown, hts, hK, hlocks, hrt, hini, hbs, hscr, hstr, hfr, hlo, hcl, hsl⟩ := C0
  refine ⟨Nat.le_refl _, fun H locs lsR hn rel => ?_⟩
  have g1 := (List.forall_mem_cons.mp rel.top).1
  subst h
  unfold rtOk at hrt
  have hr : meth.sig.returnType = some .long := by
    split at hrt <;> first | assumption | (rename_i q; cases q) | (rename_i q _; cases q) | cases hrt
  refine W.lret hx hb hr (fun t ht hW => ?_) (fun q hq => rel.2.2.1.2.2 q hq) hd hlocks
  unfold QcR
  rw [if_pos rfl]
  exact ⟨⟨_, (), rfl, ⟨rfl, g1⟩, by rw [ht]; exact rel.1, rel.2.1⟩, rel.2.2.1.F ht⟩
theorem slN_mono {a b : Nat} (h : a ≤ b) : slN a ≤ slN b := by
  induction h with
  | refl => exact Nat.le_refl _
  | step _ ih => exact Nat.le_trans ih (Nat.le_add_right _ _)
-- new cells
theorem okM_N {σ σ' : Mem} (h : okM false σ) (hN : rN σ ≤ rN σ') (hN2 : rN σ' ≤ 159) (hI : ∀ a b, rI σ' a b = rI σ a b) (hP : ∀ a b, rP σ' a b = rP σ a b) : okM false σ' := by
  obtain ⟨h1, h2, h3, h4, h5⟩ := h
  refine ⟨hN2, fun a b => by rw [hI]; exact h2 a b, fun a b t n ht => ?_, fun o ho k => ?_, fun q => by cases q⟩
  · rw [hP]
    rcases h3 a b t n ht with q | q
    · exact Or.inl q
    · exact Or.inr ⟨Nat.lt_of_lt_of_le q.1 hN, q.2⟩
  · rw [hI, hP]
    exact h4 o (Nat.le_trans hN ho) k
theorem cellAt_lay {o t n : Nat} (h : cellAt o t n = true) : nthL layL o = some (t, n) := by
  unfold cellAt at h
  split at h
  · cases h
  · next q e =>
    simp only [Bool.and_eq_true] at h
    rw [e, ← Nat.eq_of_beq_eq_true h.1, ← Nat.eq_of_beq_eq_true h.2]
theorem k_new (C0 : CX p s m args meth c w rt ml cc Dg cA B scr xs L R d n0 r) {pc : Nat} {ls : Lc} {st : List AV} {σ : Mem} {k t : Nat} (hd : decode cc pc = .ok (.new k, 3)) (hm : newT w k = some t) (hc : cellAt (rN σ) t 0 = true) (hph : ph = false) (hk : AK p l e R s m args below meth c ml Dg cA B scr ph n0 Q r (pc + 3) ls (vr t 0 (rN σ) :: st) (wN σ (rN σ + 1))) : AK p l e R s m args below meth c ml Dg cA B scr ph n0 Q r pc ls st σ := by
  obtain ⟨hx, hb, hml, hown, hts, hK, hlocks, hrt, hini, hbs, hscr, hstr, hfr, hlo, hcl, hsl⟩ := C0
  have hg : rN σ + 1 ≤ rN r.2 := hk.1
  refine ⟨by omega, fun H locs lsR hn rel => ?_⟩
  refine W_hsz hbs hn rel.2.2.1 rel.1 fun hsz => ?_
  obtain ⟨gl, gt⟩ := nw_of hm
  have hl := cellAt_lay hc
  have hsz1 : szO (rN σ) = NF t := by unfold szO; rw [hl]; simp only []; rw [if_pos gt]
  have hm1 : slN (rN σ + 1) ≤ slN (rN r.2) := slN_mono hg
  have hm0 : slN n0 ≤ slN (rN σ) := slN_mono hn
  have hst : slN (rN σ + 1) = slN (rN σ) + NF t := by show slN (rN σ) + szO (rN σ) = _; rw [hsz1]
  have hKn := hK.1 t _ (cls_at gt)
  refine W.newcK hx hb hown (hts _ gl) (hts _ (inst_ok t gt)) (hts _ (init_ok t gt)) rfl hd (by omega) (by omega) hKn.2.1 hsz fun H1 kC hkC e1 z1 o1 => ?_
  have hZ := rel.2.1.2.2.2.1 (rN σ) (Nat.le_refl _)
  have hP1 : va_P Dg cls11 (wsE cA B.1 (wN σ (rN σ + 1))) H1 := by
    rw [← wsE_push (cA := cA) (base := B.1) (σ := σ) (σ' := wN σ (rN σ + 1)) (e := .inr (t, (List.range (NF t)).map fun k => fvV B.1 t k σ (rN σ))) rfl (fun a _ => ⟨fun _ => rfl, fun _ => rfl⟩) (by rw [cellE_obj hl gt]; rfl)]
    refine (rel.1.kept (fun j q hq => o1 q.1 (by have := (rel.1 j q hq).lt; omega))).app (fun j q hq => ?_)
    have hz : j < 1 := (List.getElem?_eq_some_iff.mp hq).1
    rw [show j = 0 by omega] at hq
    cases hq
    refine ⟨_, cls_at gt, (u_born (tyF t) hts (in_ok t gt) hKn hkC e1 (ty_ok t gt)).to (fun j hj => ?_)⟩
    show _ = ((List.range (NF t)).map fun k => fvV B.1 t k σ (rN σ)).getD j .null
    rw [List.getD_eq_getElem?_getD, fs_get hj, Option.getD_some]
    have hfk := fk_ok t gt j hj
    unfold fkOk at hfk
    unfold fvV
    rw [(hZ j).1, (hZ j).2]
    split at hfk
    · next e2 => rw [e2]; simp only [Bool.and_eq_true, decide_eq_true_eq] at hfk; rw [hfk.1]; rfl
    · next e2 => rw [e2]; simp only [Bool.and_eq_true, decide_eq_true_eq] at hfk; rw [hfk.1]; rfl
    · next e2 => rw [e2]; simp only [Bool.and_eq_true, decide_eq_true_eq] at hfk; rw [hfk.1]; rfl
    · next e2 => rw [e2]; simp only [Bool.and_eq_true, decide_eq_true_eq] at hfk; rw [hfk.1]; rfl
    · next g _ _ _ e2 =>
      rw [e2]
      simp only [Bool.and_eq_true] at hfk
      have h1 := hfk.1
      cases hc2 : Nat.blt g 11 with
      | true => rw [hc2, cond_true, decide_eq_true_eq] at h1; rw [h1]; rfl
      | false => rw [hc2, cond_false, decide_eq_true_eq] at h1; rw [h1]; rfl
    · cases hfk
  have kk := hk.2 H1 locs lsR (show n0 ≤ rN σ + 1 by omega) (rel.mem (Nat.le_succ _) hP1 (by rw [hph]; exact okM_N (by rw [← hph]; exact rel.2.1) (Nat.le_succ _) (Nat.succ_le_of_lt (lay_len hl)) (fun _ _ => rfl) (fun _ _ => rfl)) ⟨Nat.le_trans rel.2.2.1.1 (by omega), fun q h1 h2 => (o1 q (by have := rel.2.2.1.1; omega)).trans (rel.2.2.1.2.1 q h1 h2), rel.2.2.1.2.2⟩ (List.forall_mem_cons.mpr ⟨Or.inr (Or.inr ⟨Nat.lt_succ_self _, hl⟩), fun v hv => okV_mono (Nat.le_succ _) (rel.top v hv)⟩))
  rw [List.map_cons, ad_obj (lay_tag hl)] at kk
  refine W.cs ?_ ?_ kk
  · show rN σ - n0 + 1 = rN σ + 1 - n0; omega
  · show slN (rN σ) - slN n0 + NF t = slN (rN σ + 1) - slN n0; omega
theorem tyT_of {ty : ArrayType} {o n : Nat} (h : nthL layL o = some (tyT ty, n)) : ty = .int ∨ ty = .long ∨ ty = .char := by
  have := (lay_sz h).2
  cases ty
  all_goals first | exact Or.inl rfl | exact Or.inr (Or.inl rfl) | exact Or.inr (Or.inr rfl) | (exfalso; revert this; simp [tyT])
theorem k_newarray (C0 : CX p s m args meth c w rt ml cc Dg cA B scr xs L R d n0 r) {pc : Nat} {ls : Lc} {st : List AV} {σ : Mem} {ty : ArrayType} {a : Int} (hd : decode cc pc = .ok (.newarray ty, 2)) (ha : 0 ≤ a) (hc : cellAt (rN σ) (tyT ty) a.toNat = true) (hph : ph = false) (hk : AK p l e R s m args below meth c ml Dg cA B scr ph n0 Q r (pc + 2) ls (vr (tyT ty) a.toNat (rN σ) :: st) (wN σ (rN σ + 1))) : AK p l e R s m args below meth c ml Dg cA B scr ph n0 Q r pc ls (.inl a :: st) σ := by
  obtain ⟨hx, hb, hml, hown, hts, hK, hlocks, hrt, hini, hbs, hscr, hstr, hfr, hlo, hcl, hsl⟩ := C0
  have hg : rN σ + 1 ≤ rN r.2 := hk.1
  refine ⟨by omega, fun H locs lsR hn rel => ?_⟩
  refine W_hsz hbs hn rel.2.2.1 rel.1 fun hsz => ?_
  obtain ⟨g1, g2⟩ := List.forall_mem_cons.mp rel.top
  have hl := cellAt_lay hc
  have hls := (lay_sz hl).1
  simp only [] at hls
  have hty := tyT_of hl
  have hsz1 : szO (rN σ) = a.toNat := by
    unfold szO
    rw [hl]
    simp only []
    rw [if_neg (by rcases hty with rfl | rfl | rfl <;> decide)]
  have hm1 : slN (rN σ + 1) ≤ slN (rN r.2) := slN_mono hg
  have hm0 : slN n0 ≤ slN (rN σ) := slN_mono hn
  have hst : slN (rN σ + 1) = slN (rN σ) + a.toNat := by show slN (rN σ) + szO (rN σ) = _; rw [hsz1]
  have hN := cl_of ha g1
  have harr : (Cond.arrayClass (newarray.typeOf ty)).before args s = true := by
    rcases hty with rfl | rfl | rfl
    · exact hts _ ar_int
    · exact hts _ ar_long
    · exact hts _ ar_char
  have hcb : componentBytes (newarray.typeOf ty) ≤ 8 := by rcases hty with rfl | rfl | rfl <;> decide
  have hZ := rel.2.1.2.2.2.1 (rN σ) (Nat.le_refl _)
  refine va_newaK hx hb harr (g := F0 m pc lsR (.int (Int32.ofInt a) :: st.map (adV B))) rfl hd rfl (nn_of g1 ha) hN (by have := Nat.mul_le_mul hls hcb; omega) (by omega) (by omega) hsz (fun H1 cA' e1 z1 o1 hAr hNm => ?_)
  have hP1 : va_P Dg cls11 (wsE cA B.1 (wN σ (rN σ + 1))) H1 := by
    rw [← wsE_push (cA := cA) (base := B.1) (σ := σ) (σ' := wN σ (rN σ + 1)) (e := cellE cA B.1 σ (rN σ)) rfl (fun a _ => ⟨fun _ => rfl, fun _ => rfl⟩) rfl]
    refine (rel.1.kept (fun j q hq => o1 q.1 (by have := (rel.1 j q hq).lt; omega))).app (fun j q hq => ?_)
    have hz : j < 1 := (List.getElem?_eq_some_iff.mp hq).1
    rw [show j = 0 by omega] at hq
    cases hq
    rcases hty with rfl | rfl | rfl
    · have hc1 : cA' = cA 20 := Option.some.inj (hNm.symm.trans (hK.2 0 (cA 20, .int) rfl).2)
      rw [cellE_i hl (Or.inl rfl)]
      show H1[_]? = some (vp_cell _ _)
      rw [e1, hc1, vp_cell_i]
      simp only [(hZ _).1]
      rfl
    · have hc1 : cA' = cA 21 := Option.some.inj (hNm.symm.trans (hK.2 1 (cA 21, .long) rfl).2)
      rw [cellE_l hl]
      show H1[_]? = some (vp_cell _ _)
      rw [e1, hc1, vp_cell_l]
      simp only [(hZ _).1]
      rfl
    · have hc1 : cA' = cA 22 := Option.some.inj (hNm.symm.trans (hK.2 2 (cA 22, .char) rfl).2)
      rw [cellE_i hl (Or.inr rfl)]
      show H1[_]? = some (vp_cell _ _)
      rw [e1, hc1, vp_cell_i]
      simp only [(hZ _).1]
      rfl
  have kk := hk.2 H1 locs lsR (show n0 ≤ rN σ + 1 by omega) (rel.mem (Nat.le_succ _) hP1 (by rw [hph]; exact okM_N (by rw [← hph]; exact rel.2.1) (Nat.le_succ _) (Nat.succ_le_of_lt (lay_len hl)) (fun _ _ => rfl) (fun _ _ => rfl)) ⟨Nat.le_trans rel.2.2.1.1 (by omega), fun q h1 h2 => (o1 q (by have := rel.2.2.1.1; omega)).trans (rel.2.2.1.2.1 q h1 h2), rel.2.2.1.2.2⟩ (List.forall_mem_cons.mpr ⟨Or.inr (Or.inr ⟨Nat.lt_succ_self _, hl⟩), fun v hv => okV_mono (Nat.le_succ _) (g2 v hv)⟩))
  rw [List.map_cons, ad_obj (lay_tag hl)] at kk
  refine W.cs ?_ ?_ kk
  · show rN σ - n0 + 1 = rN σ + 1 - n0; omega
  · show slN (rN σ) - slN n0 + a.toNat = slN (rN σ + 1) - slN n0; omega
end STEP4
