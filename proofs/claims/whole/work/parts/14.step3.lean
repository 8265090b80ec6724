section STEP3
variable {p : Program} {l : Launch} {e : Env} {R : Room} {s : State} {m : MethodId} {args : Array Value} {below : List Frame} {meth : Method} {c : Code} {w rt ml : Nat} {cc : ByteArray} {Dg : va_G} {cA : Nat → ClassId} {B : BS} {scr : Prop} {xs : Nat → Int} {L : Nat} {d : Nat} {ph : Bool} {n0 : Nat} {Q : State → Prop} {r : Int × Mem}
theorem cellE_i {cA : Nat → ClassId} {base : Nat} {σ : Mem} {o t n : Nat} (h : nthL layL o = some (t, n)) (ht : t = 20 ∨ t = 22) : cellE cA base σ o = .inl (cA t, n, .inl fun k => Int32.ofInt (rI σ o k)) := by
  unfold cellE
  rw [h]
  simp only []
  rw [if_neg (by omega), if_neg (by omega), if_neg (by omega)]
theorem cellE_l {cA : Nat → ClassId} {base : Nat} {σ : Mem} {o n : Nat} (h : nthL layL o = some (21, n)) : cellE cA base σ o = .inl (cA 21, n, .inr (.inl fun k => Int64.ofInt (rI σ o k))) := by
  unfold cellE
  rw [h]
  simp only []
  rw [if_neg (by omega), if_pos trivial]
theorem cellE_q {cA : Nat → ClassId} {base : Nat} {σ : Mem} {o t n : Nat} (h : nthL layL o = some (t, n)) (ht : t = 30 ∨ t = 31) : cellE cA base σ o = .inl (cA 30, n, .inr (.inr (.inr (.inr fun k => pq base (rP σ o k))))) := by
  unfold cellE
  rw [h]
  simp only []
  rw [if_neg (by omega), if_neg (by omega), if_pos ht]
theorem ofN32 (n : Nat) : Int32.ofNat n = Int32.ofInt (n : Int) := (Int32.ofInt_eq_ofNat (n := n)).symm
theorem k_alen (C0 : CX p s m args meth c w rt ml cc Dg cA B scr xs L R d n0 r) {pc : Nat} {ls : Lc} {st : List AV} {σ : Mem} {t n o : Nat} (hd : decode cc pc = .ok (.arraylength, 1)) (ht : t = 20 ∨ t = 21 ∨ t = 22) (hk : AK p l e R s m args below meth c ml Dg cA B scr ph n0 Q r (pc + 1) ls (.inl (n : Int) :: st) σ) : AK p l e R s m args below meth c ml Dg cA B scr ph n0 Q r pc ls (vr t n o :: st) σ := by
  obtain ⟨hx, hb, hml, hown, hts, hK, hlocks, hrt, hini, hbs, hscr, hstr, hfr, hlo, hcl, hsl⟩ := C0
  refine ⟨hk.1, fun H locs lsR hn rel => ?_⟩
  obtain ⟨g1, g2⟩ := List.forall_mem_cons.mp rel.top
  have htt : t ≠ 23 ∧ t ≠ 24 := by omega
  obtain ⟨ho, hl⟩ := okV_obj g1 htt
  have hsz := (lay_sz hl).1
  simp only [] at hsz
  have kk := hk.2 H locs lsR hn (rel.stk (List.forall_mem_cons.mpr ⟨by show rng32 (n : Int); unfold rng32; omega, g2⟩))
  rw [List.map_cons, ad_obj htt]
  rcases ht with rfl | rfl | rfl
  · exact va_alen hx hb hK rel.1 o 0 (by rw [wsE_at ho, cellE_i hl (Or.inl rfl)]) rfl (ofN32 n) hd kk
  · exact va_alen hx hb hK rel.1 o 1 (by rw [wsE_at ho, cellE_l hl]) rfl (ofN32 n) hd kk
  · exact va_alen hx hb hK rel.1 o 2 (by rw [wsE_at ho, cellE_i hl (Or.inr rfl)]) rfl (ofN32 n) hd kk
theorem k_slen (C0 : CX p s m args meth c w rt ml cc Dg cA B scr xs L R d n0 r) {pc : Nat} {ls : Lc} {st : List AV} {σ : Mem} {n o : Nat} (hd : decode cc pc = .ok (.arraylength, 1)) (hk : AK p l e R s m args below meth c ml Dg cA B scr ph n0 Q r (pc + 1) ls (.inl (L : Int) :: st) σ) : AK p l e R s m args below meth c ml Dg cA B scr ph n0 Q r pc ls (vr 23 n o :: st) σ := by
  obtain ⟨hx, hb, hml, hown, hts, hK, hlocks, hrt, hini, hbs, hscr, hstr, hfr, hlo, hcl, hsl⟩ := C0
  refine ⟨hk.1, fun H locs lsR hn rel => ?_⟩
  obtain ⟨g1, g2⟩ := List.forall_mem_cons.mp rel.top
  have hs : scr := by
    rcases g1 with q | q | q
    · exact q.2
    · cases q
    · exact absurd rfl (lay_tag q.2).1
  obtain ⟨hX, hbl, hbb, hL, hxs⟩ := hscr hs
  have kk := hk.2 H locs lsR hn (rel.stk (List.forall_mem_cons.mpr ⟨by show rng32 (L : Int); unfold rng32; omega, g2⟩))
  rw [List.map_cons, show adV B (.inl (L : Int)) = .int (Int32.ofInt (L : Int)) from rfl, ← ofN32] at kk
  exact va_slen hx hb hX hbl (Nat.not_le.mpr hbb) rel.2.2.1 hd kk
theorem k_iald (C0 : CX p s m args meth c w rt ml cc Dg cA B scr xs L R d n0 r) {pc : Nat} {ls : Lc} {st : List AV} {σ : Mem} {n o : Nat} {i : Int} (hd : decode cc pc = .ok (.iaload, 1)) (hi : 0 ≤ i ∧ i < (n : Int)) (hk : AK p l e R s m args below meth c ml Dg cA B scr ph n0 Q r (pc + 1) ls (.inl (rI σ o i.toNat) :: st) σ) : AK p l e R s m args below meth c ml Dg cA B scr ph n0 Q r pc ls (.inl i :: vr 20 n o :: st) σ := by
  obtain ⟨hx, hb, hml, hown, hts, hK, hlocks, hrt, hini, hbs, hscr, hstr, hfr, hlo, hcl, hsl⟩ := C0
  refine ⟨hk.1, fun H locs lsR hn rel => ?_⟩
  obtain ⟨g0, g1⟩ := List.forall_mem_cons.mp rel.top
  obtain ⟨g1, g2⟩ := List.forall_mem_cons.mp g1
  obtain ⟨ho, hl⟩ := okV_obj g1 (by omega)
  have hr : rng32 (rI σ o i.toNat) := by have := rel.2.1.2.1 o i.toNat; unfold kdO at this; rw [hl] at this; exact this
  have kk := hk.2 H locs lsR hn (rel.stk (List.forall_mem_cons.mpr ⟨hr, g2⟩))
  rw [List.map_cons, List.map_cons, ad_obj (by omega)]
  refine va_iald hx hb hK rel.1 o 0 (by rw [wsE_at ho, cellE_i hl (Or.inl rfl)]) rfl (in_of g0 hi) hd ?_
  rw [cl_of hi.1 g0]
  exact kk
theorem k_sald (C0 : CX p s m args meth c w rt ml cc Dg cA B scr xs L R d n0 r) {pc : Nat} {ls : Lc} {st : List AV} {σ : Mem} {n o : Nat} {i : Int} (hd : decode cc pc = .ok (.iaload, 1)) (hi : 0 ≤ i ∧ i < (L : Int)) (hk : AK p l e R s m args below meth c ml Dg cA B scr ph n0 Q r (pc + 1) ls (.inl (xs i.toNat) :: st) σ) : AK p l e R s m args below meth c ml Dg cA B scr ph n0 Q r pc ls (.inl i :: vr 23 n o :: st) σ := by
  obtain ⟨hx, hb, hml, hown, hts, hK, hlocks, hrt, hini, hbs, hscr, hstr, hfr, hlo, hcl, hsl⟩ := C0
  refine ⟨hk.1, fun H locs lsR hn rel => ?_⟩
  obtain ⟨g0, g1⟩ := List.forall_mem_cons.mp rel.top
  obtain ⟨g1, g2⟩ := List.forall_mem_cons.mp g1
  have hs : scr := by
    rcases g1 with q | q | q
    · exact q.2
    · cases q
    · exact absurd rfl (lay_tag q.2).1
  obtain ⟨hX, hbl, hbb, hL, hxs⟩ := hscr hs
  have kk := hk.2 H locs lsR hn (rel.stk (List.forall_mem_cons.mpr ⟨hxs _, g2⟩))
  refine va_sld hx hb hX hbl (Nat.not_le.mpr hbb) rel.2.2.1 (in_of g0 hi) hd ?_
  rw [cl_of hi.1 g0]
  exact kk
theorem k_cald (C0 : CX p s m args meth c w rt ml cc Dg cA B scr xs L R d n0 r) {pc : Nat} {ls : Lc} {st : List AV} {σ : Mem} {n o : Nat} {i : Int} (hd : decode cc pc = .ok (.caload, 1)) (hi : 0 ≤ i ∧ i < (n : Int)) (hk : AK p l e R s m args below meth c ml Dg cA B scr ph n0 Q r (pc + 1) ls (.inl (rI σ o i.toNat) :: st) σ) : AK p l e R s m args below meth c ml Dg cA B scr ph n0 Q r pc ls (.inl i :: vr 22 n o :: st) σ := by
  obtain ⟨hx, hb, hml, hown, hts, hK, hlocks, hrt, hini, hbs, hscr, hstr, hfr, hlo, hcl, hsl⟩ := C0
  refine ⟨hk.1, fun H locs lsR hn rel => ?_⟩
  obtain ⟨g0, g1⟩ := List.forall_mem_cons.mp rel.top
  obtain ⟨g1, g2⟩ := List.forall_mem_cons.mp g1
  obtain ⟨ho, hl⟩ := okV_obj g1 (by omega)
  have hr : rng32 (rI σ o i.toNat) := by
    have h5 := rel.2.1.2.1 o i.toNat
    unfold kdO at h5
    rw [hl] at h5
    have h5 : 0 ≤ rI σ o i.toNat ∧ rI σ o i.toNat < 65536 := h5
    unfold rng32
    omega
  have kk := hk.2 H locs lsR hn (rel.stk (List.forall_mem_cons.mpr ⟨hr, g2⟩))
  rw [List.map_cons, List.map_cons, ad_obj (by omega)]
  refine va_cald hx hb hK rel.1 o 2 (by rw [wsE_at ho, cellE_i hl (Or.inr rfl)]) rfl (in_of g0 hi) hd ?_
  rw [cl_of hi.1 g0]
  exact kk
theorem k_lald (C0 : CX p s m args meth c w rt ml cc Dg cA B scr xs L R d n0 r) {pc : Nat} {ls : Lc} {st : List AV} {σ : Mem} {n o : Nat} {i : Int} (hd : decode cc pc = .ok (.laload, 1)) (hi : 0 ≤ i ∧ i < (n : Int)) (hk : AK p l e R s m args below meth c ml Dg cA B scr ph n0 Q r (pc + 1) ls (vl (rI σ o i.toNat) :: st) σ) : AK p l e R s m args below meth c ml Dg cA B scr ph n0 Q r pc ls (.inl i :: vr 21 n o :: st) σ := by
  obtain ⟨hx, hb, hml, hown, hts, hK, hlocks, hrt, hini, hbs, hscr, hstr, hfr, hlo, hcl, hsl⟩ := C0
  refine ⟨hk.1, fun H locs lsR hn rel => ?_⟩
  obtain ⟨g0, g1⟩ := List.forall_mem_cons.mp rel.top
  obtain ⟨g1, g2⟩ := List.forall_mem_cons.mp g1
  obtain ⟨ho, hl⟩ := okV_obj g1 (by omega)
  have hr : rng64 (rI σ o i.toNat) := by have := rel.2.1.2.1 o i.toNat; unfold kdO at this; rw [hl] at this; exact this
  have kk := hk.2 H locs lsR hn (rel.stk (List.forall_mem_cons.mpr ⟨hr, g2⟩))
  rw [List.map_cons, List.map_cons, ad_obj (by omega)]
  refine va_lald hx hb hK rel.1 o 1 (by rw [wsE_at ho, cellE_l hl]) rfl (in_of g0 hi) hd ?_
  rw [cl_of hi.1 g0]
  exact kk
theorem k_aald (C0 : CX p s m args meth c w rt ml cc Dg cA B scr xs L R d n0 r) {pc : Nat} {ls : Lc} {st : List AV} {σ : Mem} {t n o q : Nat} {i : Int} (hd : decode cc pc = .ok (.aaload, 1)) (hq : innT t = some q) (hph : ph = true) (hi : 0 ≤ i ∧ i < (n : Int)) (hk : AK p l e R s m args below meth c ml Dg cA B scr ph n0 Q r (pc + 1) ls (vr 20 q (o + 1 + i.toNat) :: st) σ) : AK p l e R s m args below meth c ml Dg cA B scr ph n0 Q r pc ls (.inl i :: vr t n o :: st) σ := by
  obtain ⟨hx, hb, hml, hown, hts, hK, hlocks, hrt, hini, hbs, hscr, hstr, hfr, hlo, hcl, hsl⟩ := C0
  refine ⟨hk.1, fun H locs lsR hn rel => ?_⟩
  obtain ⟨g0, g1⟩ := List.forall_mem_cons.mp rel.top
  obtain ⟨g1, g2⟩ := List.forall_mem_cons.mp g1
  have ht : t = 30 ∨ t = 31 := by
    unfold innT at hq
    split at hq
    · exact Or.inl rfl
    · exact Or.inr rfl
    · cases hq
  obtain ⟨ho, hl⟩ := okV_obj g1 (by omega)
  have hin : i.toNat < n := by omega
  have hS := ((rel.2.1.2.2.2.2 hph).2 o t n hl).2 q hq i.toNat hin
  have htg : tgO o i.toNat = some (20, q) := by
    unfold tgO
    rw [hl]
    simp only []
    rw [if_neg (by omega), hq]
  have hP : o + 1 + i.toNat < rN σ ∧ nthL layL (o + 1 + i.toNat) = some (20, q) := by
    rcases rel.2.1.2.2.1 o i.toNat 20 q htg with z | z
    · rw [hS] at z; cases z
    · rw [hS] at z; exact z
  have kk := hk.2 H locs lsR hn (rel.stk (List.forall_mem_cons.mpr ⟨Or.inr (Or.inr hP), g2⟩))
  rw [List.map_cons, ad_obj (by omega)] at kk
  rw [List.map_cons, List.map_cons, ad_obj (by omega)]
  have hlt : (Int32.ofInt i).toNatClampNeg < n := by rw [cl_of hi.1 g0]; exact hin
  have e1 : va_rf (pq B.1 (rP σ o (Int32.ofInt i).toNatClampNeg)) = .ref (B.1 + (o + 1 + i.toNat)) := by
    rw [cl_of hi.1 g0, hS]
    rfl
  rw [← e1] at kk
  exact W.aald (v := va_rf (pq B.1 (rP σ o (Int32.ofInt i).toNatClampNeg))) (ty := .array .int) hx hb (rel.1 o (B.1 + o, .inl (cA 30, (n, .inr (.inr (.inr (.inr fun k => pq B.1 (rP σ o k))))))) (by rw [wsE_at ho, cellE_q hl ht])) ((hK.2 3 (cA 30, .array .int) rfl).1 n (fun j => va_rf (pq B.1 (rP σ o j)))) rfl (fun z => by cases z) (by show ¬ (_ ∨ (arrV _ _ _).slots.size ≤ _); rw [arrV_size]; exact in_of g0 hi) (by show (arrV _ _ _).slots[_]? = _; rw [arrV_read _ _ hlt]) rfl rfl hd kk
theorem set_i {base : Nat} {σ : Mem} {o t n k : Nat} {v : Int} (hl : nthL layL o = some (t, n)) (ht : t = 20 ∨ t = 22) : (wsE cA base σ).set o (base + o, .inl (cA t, n, .inl (upd (fun k => Int32.ofInt (rI σ o k)) k (Int32.ofInt v)))) = wsE cA base (wI σ o k v) := by
  refine wsE_set rfl (fun a ha => ⟨fun k => by rw [rI_wI, if_neg (fun q => ha q.1)], fun k => rfl⟩) ?_
  rw [cellE_i hl ht]
  congr 4
  funext j
  unfold upd
  rw [rI_wI]
  by_cases hj : j = k
  · rw [if_pos ⟨rfl, hj⟩, if_pos hj]
  · rw [if_neg (fun q => hj q.2), if_neg hj]
theorem set_l {base : Nat} {σ : Mem} {o n k : Nat} {v : Int} (hl : nthL layL o = some (21, n)) : (wsE cA base σ).set o (base + o, .inl (cA 21, n, .inr (.inl (vp_updL (fun k => Int64.ofInt (rI σ o k)) k (Int64.ofInt v))))) = wsE cA base (wI σ o k v) := by
  refine wsE_set rfl (fun a ha => ⟨fun k => by rw [rI_wI, if_neg (fun q => ha q.1)], fun k => rfl⟩) ?_
  rw [cellE_l hl]
  congr 5
  funext j
  unfold vp_updL
  rw [rI_wI]
  by_cases hj : j = k
  · rw [if_pos ⟨rfl, hj⟩, if_pos hj]
  · rw [if_neg (fun q => hj q.2), if_neg hj]
theorem k_iast (C0 : CX p s m args meth c w rt ml cc Dg cA B scr xs L R d n0 r) {pc : Nat} {ls : Lc} {st : List AV} {σ : Mem} {n o : Nat} {i v : Int} (hd : decode cc pc = .ok (.iastore, 1)) (hi : 0 ≤ i ∧ i < (n : Int)) (hk : AK p l e R s m args below meth c ml Dg cA B scr ph n0 Q r (pc + 1) ls st (wI σ o i.toNat v)) : AK p l e R s m args below meth c ml Dg cA B scr ph n0 Q r pc ls (.inl v :: .inl i :: vr 20 n o :: st) σ := by
  obtain ⟨hx, hb, hml, hown, hts, hK, hlocks, hrt, hini, hbs, hscr, hstr, hfr, hlo, hcl, hsl⟩ := C0
  refine ⟨hk.1, fun H locs lsR hn rel => ?_⟩
  obtain ⟨gv, g0⟩ := List.forall_mem_cons.mp rel.top
  obtain ⟨g0, g1⟩ := List.forall_mem_cons.mp g0
  obtain ⟨g1, g2⟩ := List.forall_mem_cons.mp g1
  obtain ⟨ho, hl⟩ := okV_obj g1 (by omega)
  rw [List.map_cons, List.map_cons, List.map_cons, ad_obj (by omega)]
  refine va_iast hx hb hK rel.1 wsE_D rel.2.2.1 o 0 (by rw [wsE_at ho, cellE_i hl (Or.inl rfl)]) rfl (in_of g0 hi) hd (fun H1 locs1 hP hD hS => ?_)
  rw [cl_of hi.1 g0, set_i hl (Or.inl rfl)] at hP
  exact hk.2 H1 locs1 lsR hn (rel.mem (Nat.le_refl _) hP (okM_wI rel.2.1 (by unfold kdO; rw [hl]; exact gv) ho) hS g2)
theorem k_cast (C0 : CX p s m args meth c w rt ml cc Dg cA B scr xs L R d n0 r) {pc : Nat} {ls : Lc} {st : List AV} {σ : Mem} {n o : Nat} {i v : Int} (hd : decode cc pc = .ok (.castore, 1)) (hv : 0 ≤ v ∧ v < 65536) (hi : 0 ≤ i ∧ i < (n : Int)) (hk : AK p l e R s m args below meth c ml Dg cA B scr ph n0 Q r (pc + 1) ls st (wI σ o i.toNat v)) : AK p l e R s m args below meth c ml Dg cA B scr ph n0 Q r pc ls (.inl v :: .inl i :: vr 22 n o :: st) σ := by
  obtain ⟨hx, hb, hml, hown, hts, hK, hlocks, hrt, hini, hbs, hscr, hstr, hfr, hlo, hcl, hsl⟩ := C0
  refine ⟨hk.1, fun H locs lsR hn rel => ?_⟩
  obtain ⟨gv, g0⟩ := List.forall_mem_cons.mp rel.top
  obtain ⟨g0, g1⟩ := List.forall_mem_cons.mp g0
  obtain ⟨g1, g2⟩ := List.forall_mem_cons.mp g1
  obtain ⟨ho, hl⟩ := okV_obj g1 (by omega)
  rw [List.map_cons, List.map_cons, List.map_cons, ad_obj (by omega)]
  have hnar : vp_nar .char (Int32.ofInt v) = Int32.ofInt v := by
    have e1 : Int32.ofInt v = nI v.toNat := by
      show _ = Int32.ofNat _
      rw [ofN32]
      congr 1
      omega
    have h2 := (pk_charN (q := v.toNat) (by omega)).1
    unfold vp_nar
    rw [e1, h2]
  refine va_cast hx hb hK rel.1 wsE_D rel.2.2.1 o 2 (by rw [wsE_at ho, cellE_i hl (Or.inr rfl)]) rfl (in_of g0 hi) hd (fun H1 locs1 hP hD hS => ?_)
  rw [cl_of hi.1 g0, hnar, set_i hl (Or.inr rfl)] at hP
  exact hk.2 H1 locs1 lsR hn (rel.mem (Nat.le_refl _) hP (okM_wI rel.2.1 (by unfold kdO; rw [hl]; exact hv) ho) hS g2)
theorem k_last (C0 : CX p s m args meth c w rt ml cc Dg cA B scr xs L R d n0 r) {pc : Nat} {ls : Lc} {st : List AV} {σ : Mem} {n o : Nat} {i v : Int} (hd : decode cc pc = .ok (.lastore, 1)) (hi : 0 ≤ i ∧ i < (n : Int)) (hk : AK p l e R s m args below meth c ml Dg cA B scr ph n0 Q r (pc + 1) ls st (wI σ o i.toNat v)) : AK p l e R s m args below meth c ml Dg cA B scr ph n0 Q r pc ls (vl v :: .inl i :: vr 21 n o :: st) σ := by
  obtain ⟨hx, hb, hml, hown, hts, hK, hlocks, hrt, hini, hbs, hscr, hstr, hfr, hlo, hcl, hsl⟩ := C0
  refine ⟨hk.1, fun H locs lsR hn rel => ?_⟩
  obtain ⟨gv, g0⟩ := List.forall_mem_cons.mp rel.top
  obtain ⟨g0, g1⟩ := List.forall_mem_cons.mp g0
  obtain ⟨g1, g2⟩ := List.forall_mem_cons.mp g1
  obtain ⟨ho, hl⟩ := okV_obj g1 (by omega)
  rw [List.map_cons, List.map_cons, List.map_cons, ad_obj (by omega)]
  refine va_last hx hb hK rel.1 wsE_D rel.2.2.1 o 1 (by rw [wsE_at ho, cellE_l hl]) rfl (in_of g0 hi) hd (fun H1 locs1 hP hD hS => ?_)
  rw [cl_of hi.1 g0, set_l hl] at hP
  exact hk.2 H1 locs1 lsR hn (rel.mem (Nat.le_refl _) hP (okM_wI rel.2.1 (by unfold kdO; rw [hl]; exact gv) ho) hS g2)
theorem sum_ad (B : BS) : ∀ st : List AV, ((st.map (adV B)).map fun v => v.category).sum = sumC st
  | [] => rfl
  | v :: st => by
    rw [List.map_cons, List.map_cons, List.sum_cons, sum_ad B st, cat_ad]
    rfl
theorem okR_le {st : List AV} (h : okR st = true) (B : BS) : ((st.map (adV B)).map fun v => v.category).sum ≤ 8 := by
  rw [sum_ad]
  exact Nat.le_of_ble_eq_true h
theorem cpy_cells {base : Nat} {σ : Mem} {so sn sp d' dn dp n : Nat} (hl : nthL layL d' = some (20, dn)) : (wsE cA base σ).set d' (base + d', .inl (cA 20, dn, .inl (va_cpy (fun k => Int32.ofInt (rI σ so k)) (fun k => Int32.ofInt (rI σ d' k)) sp dp n))) = wsE cA base (cpI σ so sp d' dp n) := by
  refine wsE_set rfl (fun a ha => ⟨fun k => by rw [rI_cpI, if_neg (fun q => ha q.1)], fun k => rfl⟩) ?_
  rw [cellE_i hl (Or.inl rfl)]
  congr 4
  funext j
  unfold va_cpy
  rw [rI_cpI]
  by_cases hj : dp ≤ j ∧ j < dp + n
  · rw [if_pos ⟨rfl, hj⟩, if_pos hj]
  · rw [if_neg (fun q => hj q.2), if_neg hj]
theorem k_copy (C0 : CX p s m args meth c w rt ml cc Dg cA B scr xs L R d n0 r) {pc : Nat} {ls : Lc} {st : List AV} {σ : Mem} {k so sn d' dn : Nat} {sp dp z : Int} {x : Nat × Nat × Nat} (hd : decode cc pc = .ok (.invokestatic k, 3)) (hm : mthT w k = some (903, x)) (hr : okR st = true) (h : (0 ≤ z ∧ 0 ≤ sp ∧ 0 ≤ dp) ∧ sp + z ≤ (sn : Int) ∧ dp + z ≤ (dn : Int)) (hk : AK p l e R s m args below meth c ml Dg cA B scr ph n0 Q r (pc + 3) ls st (cpI σ so sp.toNat d' dp.toNat z.toNat)) : AK p l e R s m args below meth c ml Dg cA B scr ph n0 Q r pc ls (.inl z :: .inl dp :: vr 20 dn d' :: .inl sp :: vr 20 sn so :: st) σ := by
  obtain ⟨hx, hb, hml, hown, hts, hK, hlocks, hrt, hini, hbs, hscr, hstr, hfr, hlo, hcl, hsl⟩ := C0
  refine ⟨hk.1, fun H locs lsR hn rel => ?_⟩
  obtain ⟨gz, g0⟩ := List.forall_mem_cons.mp rel.top
  obtain ⟨gdp, g0⟩ := List.forall_mem_cons.mp g0
  obtain ⟨gd, g0⟩ := List.forall_mem_cons.mp g0
  obtain ⟨gsp, g0⟩ := List.forall_mem_cons.mp g0
  obtain ⟨gs, g2⟩ := List.forall_mem_cons.mp g0
  obtain ⟨hos, hls⟩ := okV_obj gs (by omega)
  obtain ⟨hod, hld⟩ := okV_obj gd (by omega)
  have e1 := cl_of h.1.1 gz
  have e2 := cl_of h.1.2.1 gsp
  have e3 := cl_of h.1.2.2 gdp
  rw [List.map_cons, List.map_cons, List.map_cons, List.map_cons, List.map_cons, ad_obj (by omega), ad_obj (by omega)]
  have hnw : nativeFrameWords "java/lang/System" "arraycopy" 5 ≤ 40 := by decide +kernel
  have hsum := okR_le hr B
  refine va_copyi hx hb (by rw [hml]; exact rel.2.2.2.1.1.symm) hown (hts _ (ac_of hm)) (hts _ ac_native) (hts _ ac_static) (hts _ ac_init) hK rel.1 wsE_D rel.2.2.1 so d' 0 0 (by rw [wsE_at hos, cellE_i hls (Or.inl rfl)]) (by rw [wsE_at hod, cellE_i hld (Or.inl rfl)]) rfl rfl rfl (nn_of gsp h.1.2.1) (nn_of gdp h.1.2.2) (nn_of gz h.1.1) (by rw [e1, e2]; omega) (by rw [e1, e3]; omega) (fun i _ => rfl) (by omega) (by omega) hd (fun H1 locs1 hP hD hS => ?_)
  rw [e1, e2, e3, cpy_cells (sn := sn) hld] at hP
  exact hk.2 H1 locs1 lsR hn (rel.mem (Nat.le_refl _) hP (okM_cpI rel.2.1 hls hld hod) hS g2)
/-- where a method stands, the heap's size is known -/
theorem W_hsz {H : Heap} {locs : List Loc} {σ : Mem} {g : JFrame} (hbs : s.heap.size = B.1 + n0) (hn : n0 ≤ rN σ) (hS : va_S (fun q => B.1 ≤ q) s.heap H locs) (hP : va_P Dg cls11 (wsE cA B.1 σ) H) (k : H.size = B.1 + rN σ → W p l e R s m args below meth c H locs (rN σ - n0) (slN (rN σ) - slN n0) Q g) : W p l e R s m args below meth c H locs (rN σ - n0) (slN (rN σ) - slN n0) Q g := by
  intro T hT X
  refine k ?_ T hT X
  have h1 := X.heapSize
  rw [hT] at h1
  have h2 := hS.1
  rcases Nat.eq_or_lt_of_le hn with q | q
  · omega
  · have h3 := (hP (rN σ - 1) _ (wsE_at (by omega))).lt
    simp only [] at h3
    omega
theorem k_objinit (C0 : CX p s m args meth c w rt ml cc Dg cA B scr xs L R d n0 r) {pc : Nat} {ls : Lc} {st : List AV} {σ : Mem} {k t n o : Nat} {x : Nat × Nat × Nat} (hd : decode cc pc = .ok (.invokespecial k, 3)) (hm : mthT w k = some (902, x)) (hr : okR st = true) (hk : AK p l e R s m args below meth c ml Dg cA B scr ph n0 Q r (pc + 3) ls st σ) : AK p l e R s m args below meth c ml Dg cA B scr ph n0 Q r pc ls (vr t n o :: st) σ := by
  obtain ⟨hx, hb, hml, hown, hts, hK, hlocks, hrt, hini, hbs, hscr, hstr, hfr, hlo, hcl, hsl⟩ := C0
  refine ⟨hk.1, fun H locs lsR hn rel => ?_⟩
  obtain ⟨g1, g2⟩ := List.forall_mem_cons.mp rel.top
  obtain ⟨a, ea⟩ := ad_ref B (t, n, o)
  have hsum := okR_le hr B
  rw [List.map_cons, show adV B (vr t n o) = .ref a from ea]
  exact W.objInit hx hb hown (hts _ (oi_of hm)) (hts _ oi_inst) (hts _ oi_code) (g := F0 m pc lsR (.ref a :: st.map (adV B))) rfl (by rw [hml]; exact rel.2.2.2.1.1) rfl hd (by omega) (by show 2 * 0 + _ + 12 ≤ _; omega) (hk.2 H locs lsR hn (rel.stk g2))
end STEP3
