/-- what the tables say beside the words: the constructors of nest mates, the text of the words, arrays of int arrays -/
def NWS (B : BS) (U : State) : Prop := (∀ q ∈ nestL, va_Nw q U) ∧ (∃ tx, vk_R "TalkCoopers$Reader" 132 tx B.2.2 U) ∧ (Cond.arrayOver (.array .int)).before #[] U = true ∧ (∃ sV : Nat, vk_S 1 [wordsL.length] [wordsL.map Int32.ofInt] (fun _ => B.2.2) (fun _ => sV) (fun q => B.1 ≤ q) U U.heap) ∧ va_Z "java/lang/String" "COMPACT_STRINGS" "Z" (.int 1) (fun q => B.1 ≤ q) U U.heap ∧ va_Zq "jdk/internal/util/Preconditions" "SIOOBE_FORMATTER" "Ljava/util/function/BiFunction;" (fun q => B.1 ≤ q) U U.heap
/-! one instruction: what the abstract machine does, the machine does -/
/-- a method's place: all that holds at its start and stays -/
def CX (p : Program) (s : State) (m : MethodId) (args : Array Value) (meth : Method) (c : Code) (w rt ml : Nat) (cc : ByteArray) (Dg : va_G) (cA : Nat → ClassId) (B : BS) (scr : Prop) (xs : Nat → Int) (L : Nat) (R : Room) (d n0 : Nat) (r : Int × Mem) : Prop :=
  p.tables.exec = Jvm.exec ∧ c.code = cc ∧ c.maxLocals = ml ∧ s.vm.findClass (nmT w) = some m.cls ∧ (∀ q ∈ lwG, q.before args s = true) ∧ va_K Dg cls11 (tysE cA) s ∧ meth.locks = false ∧ rtOk rt meth.sig.returnType = true ∧ (rt = 4 → meth.name = "<init>") ∧ s.heap.size = B.1 + n0 ∧ (scr → va_X B.2.1 L (fun j => Int32.ofInt (xs j)) s s.heap ∧ B.2.1 < s.heap.size ∧ B.2.1 < B.1 ∧ L < 2 ^ 31 ∧ ∀ j, rng32 (xs j)) ∧ NWS B s ∧ d + 1 ≤ R.frames ∧ (d + 1) * 60 ≤ R.locals ∧ rN r.2 - n0 ≤ R.cells ∧ slN (rN r.2) - slN n0 ≤ R.slots
def REL (ph : Bool) (Dg : va_G) (cA : Nat → ClassId) (B : BS) (scr : Prop) (ml : Nat) (H0 : Heap) (σ : Mem) (ls : Lc) (st : List AV) (H : Heap) (locs : List Loc) (lsR : Array Slot) : Prop :=
  va_P Dg cls11 (wsE cA B.1 σ) H ∧ okM ph σ ∧ va_S (fun q => B.1 ≤ q) H0 H locs ∧ lv_has lsR ml (ls.map fun q => (q.1, adV B q.2)) ∧ (∀ q ∈ ls, okV scr σ q.2) ∧ ∀ v ∈ st, okV scr σ v
/-- from here the method comes to its end, with the answer r -/
def AK (p : Program) (l : Launch) (e : Env) (R : Room) (s : State) (m : MethodId) (args : Array Value) (below : List Frame) (meth : Method) (c : Code) (ml : Nat) (Dg : va_G) (cA : Nat → ClassId) (B : BS) (scr : Prop) (ph : Bool) (n0 : Nat) (Q : State → Prop) (r : Int × Mem) : Nat → Lc → List AV → Mem → Prop := fun pc ls st σ =>
  rN σ ≤ rN r.2 ∧ ∀ H locs lsR, n0 ≤ rN σ → REL ph Dg cA B scr ml s.heap σ ls st H locs lsR → W p l e R s m args below meth c H locs (rN σ - n0) (slN (rN σ) - slN n0) Q (F0 m pc lsR (st.map (adV B)))
theorem REL.stk {ph : Bool} {Dg : va_G} {cA : Nat → ClassId} {B : BS} {scr : Prop} {ml : Nat} {H0 : Heap} {σ : Mem} {ls : Lc} {st st' : List AV} {H : Heap} {locs : List Loc} {lsR : Array Slot} (h : REL ph Dg cA B scr ml H0 σ ls st H locs lsR) (hs : ∀ v ∈ st', okV scr σ v) : REL ph Dg cA B scr ml H0 σ ls st' H locs lsR := ⟨h.1, h.2.1, h.2.2.1, h.2.2.2.1, h.2.2.2.2.1, hs⟩
theorem REL.top {ph : Bool} {Dg : va_G} {cA : Nat → ClassId} {B : BS} {scr : Prop} {ml : Nat} {H0 : Heap} {σ : Mem} {ls : Lc} {st : List AV} {H : Heap} {locs : List Loc} {lsR : Array Slot} (h : REL ph Dg cA B scr ml H0 σ ls st H locs lsR) : ∀ v ∈ st, okV scr σ v := h.2.2.2.2.2
theorem lkL_mem {i : Nat} {v : AV} : ∀ {ls : Lc}, lkL i ls = some v → (i, v) ∈ ls
  | [], h => by cases h
  | (k, u) :: ls, h => by
    unfold lkL at h
    cases hk : Nat.beq k i with
    | true => rw [hk, cond_true] at h; cases h; rw [Nat.eq_of_beq_eq_true hk]; exact List.mem_cons_self
    | false => rw [hk, cond_false] at h; exact List.mem_cons_of_mem _ (lkL_mem h)
theorem REL.loc {ph : Bool} {Dg : va_G} {cA : Nat → ClassId} {B : BS} {scr : Prop} {ml : Nat} {H0 : Heap} {σ : Mem} {ls : Lc} {st : List AV} {H : Heap} {locs : List Loc} {lsR : Array Slot} (h : REL ph Dg cA B scr ml H0 σ ls st H locs lsR) {i : Nat} {v : AV} (e : lkL i ls = some v) : lsR[i]? = some (.val (adV B v)) ∧ okV scr σ v :=
  ⟨h.2.2.2.1.2.2 (i, adV B v) (List.mem_map.mpr ⟨(i, v), lkL_mem e, rfl⟩), h.2.2.2.2.1 _ (lkL_mem e)⟩
theorem cat2_ad (B : BS) (v : AV) : ((adV B v).category == 2) = cat2 v := by
  rcases v with z | z | _ | ⟨t, n, a⟩
  · rfl
  · rfl
  · rfl
  · unfold adV cat2
    simp only []
    split
    · rfl
    · split <;> rfl
theorem cat_ad (B : BS) (v : AV) : (adV B v).category = (bif cat2 v then 2 else 1) := by
  rcases v with z | z | _ | ⟨t, n, a⟩
  · rfl
  · rfl
  · rfl
  · unfold adV cat2
    simp only []
    split
    · rfl
    · split <;> rfl
theorem st1_map (B : BS) (i : Nat) (v : AV) (ls : Lc) : (st1 i v ls).map (fun q => (q.1, adV B q.2)) = (i, adV B v) :: (ls.map fun q => (q.1, adV B q.2)).filter (fun q => !(q.1 == i) && !(q.1 + 1 == i && q.2.category == 2)) := by
  unfold st1
  rw [List.map_cons, List.filter_map]
  congr 3
  funext q
  simp only [Function.comp, cat2_ad]
theorem st2_map (B : BS) (i : Nat) (v : AV) (ls : Lc) : (st2 i v ls).map (fun q => (q.1, adV B q.2)) = (i, adV B v) :: (ls.map fun q => (q.1, adV B q.2)).filter (fun q => !(q.1 == i) && (!(q.1 == i + 1) && !(q.1 + 1 == i && q.2.category == 2))) := by
  unfold st2
  rw [List.map_cons, List.filter_map]
  congr 3
  funext q
  simp only [Function.comp, cat2_ad]
theorem REL.st {ph : Bool} {Dg : va_G} {cA : Nat → ClassId} {B : BS} {scr : Prop} {ml : Nat} {H0 : Heap} {σ : Mem} {ls ls' : Lc} {st st' : List AV} {H : Heap} {locs : List Loc} {lsR lsR' : Array Slot} {i : Nat} {v : AV} (h : REL ph Dg cA B scr ml H0 σ ls st H locs lsR) (hl : lv_has lsR' ml (ls'.map fun q => (q.1, adV B q.2))) (hv : okV scr σ v) (hs : ∀ q ∈ ls', q = (i, v) ∨ q ∈ ls) (ht : ∀ u ∈ st', u ∈ st) : REL ph Dg cA B scr ml H0 σ ls' st' H locs lsR' :=
  ⟨h.1, h.2.1, h.2.2.1, hl, fun q hq => by rcases hs q hq with rfl | hq; exact hv; exact h.2.2.2.2.1 q hq, fun u hu => h.2.2.2.2.2 u (ht u hu)⟩
theorem st1_in {i : Nat} {v : AV} {ls : Lc} : ∀ q ∈ st1 i v ls, q = (i, v) ∨ q ∈ ls := by
  intro q hq
  rcases List.mem_cons.mp hq with h | h
  · exact Or.inl h
  · exact Or.inr (List.mem_filter.mp h).1
theorem st2_in {i : Nat} {v : AV} {ls : Lc} : ∀ q ∈ st2 i v ls, q = (i, v) ∨ q ∈ ls := by
  intro q hq
  rcases List.mem_cons.mp hq with h | h
  · exact Or.inl h
  · exact Or.inr (List.mem_filter.mp h).1
theorem br_of {pc : Nat} {off : Int} (h : 0 ≤ (pc : Int) + off) : (pc : Int) + off = ((br pc off : Nat) : Int) := by
  unfold br
  omega
theorem z32 : Int32.ofInt 0 = 0 := by decide
theorem rng0 : rng32 0 := by unfold rng32; omega
theorem c1 {B : BS} {v : AV} (h : cat2 v = false) : (adV B v).category = 1 := by rw [cat_ad, h]; rfl
theorem c2 {B : BS} {v : AV} (h : cat2 v = true) : (adV B v).category = 2 := by rw [cat_ad, h]; rfl
section STEP
variable {p : Program} {l : Launch} {e : Env} {R : Room} {s : State} {m : MethodId} {args : Array Value} {below : List Frame} {meth : Method} {c : Code} {w rt ml : Nat} {cc : ByteArray} {Dg : va_G} {cA : Nat → ClassId} {B : BS} {scr : Prop} {xs : Nat → Int} {L : Nat} {d : Nat} {ph : Bool} {n0 : Nat} {Q : State → Prop} {r : Int × Mem}

theorem k_iconst (C0 : CX p s m args meth c w rt ml cc Dg cA B scr xs L R d n0 r) {pc : Nat} {ls : Lc} {st : List AV} {σ : Mem} {v : Int} (h1 : -1 ≤ v) (h2 : v ≤ 5) (hd : decode cc pc = .ok (.iconst v, 1)) (hk : AK p l e R s m args below meth c ml Dg cA B scr ph n0 Q r (pc + 1) ls (.inl v :: st) σ) : AK p l e R s m args below meth c ml Dg cA B scr ph n0 Q r pc ls st σ := by
  obtain ⟨hx, hb, hml, hown, hts, hK, hlocks, hrt, hini, hbs, hscr, hstr, hfr, hlo, hcl, hsl⟩ := C0
  refine ⟨hk.1, fun H locs lsR hn rel => ?_⟩
  exact lv_iconst hx hb hd rfl (hk.2 H locs lsR hn (rel.stk (List.forall_mem_cons.mpr ⟨by show rng32 v; unfold rng32; omega, rel.top⟩)))
theorem k_bipush (C0 : CX p s m args meth c w rt ml cc Dg cA B scr xs L R d n0 r) {pc : Nat} {ls : Lc} {st : List AV} {σ : Mem} {v : Int} (h1 : -128 ≤ v) (h2 : v < 128) (hd : decode cc pc = .ok (.bipush v, 2)) (hk : AK p l e R s m args below meth c ml Dg cA B scr ph n0 Q r (pc + 2) ls (.inl v :: st) σ) : AK p l e R s m args below meth c ml Dg cA B scr ph n0 Q r pc ls st σ := by
  obtain ⟨hx, hb, hml, hown, hts, hK, hlocks, hrt, hini, hbs, hscr, hstr, hfr, hlo, hcl, hsl⟩ := C0
  refine ⟨hk.1, fun H locs lsR hn rel => ?_⟩
  exact lv_bipush hx hb hd (i8_of h1 h2) (hk.2 H locs lsR hn (rel.stk (List.forall_mem_cons.mpr ⟨by show rng32 v; unfold rng32; omega, rel.top⟩)))
theorem k_sipush (C0 : CX p s m args meth c w rt ml cc Dg cA B scr xs L R d n0 r) {pc : Nat} {ls : Lc} {st : List AV} {σ : Mem} {v : Int} (h1 : -32768 ≤ v) (h2 : v < 32768) (hd : decode cc pc = .ok (.sipush v, 3)) (hk : AK p l e R s m args below meth c ml Dg cA B scr ph n0 Q r (pc + 3) ls (.inl v :: st) σ) : AK p l e R s m args below meth c ml Dg cA B scr ph n0 Q r pc ls st σ := by
  obtain ⟨hx, hb, hml, hown, hts, hK, hlocks, hrt, hini, hbs, hscr, hstr, hfr, hlo, hcl, hsl⟩ := C0
  refine ⟨hk.1, fun H locs lsR hn rel => ?_⟩
  exact lv_sipush hx hb hd (i16_of h1 h2) (hk.2 H locs lsR hn (rel.stk (List.forall_mem_cons.mpr ⟨by show rng32 v; unfold rng32; omega, rel.top⟩)))
theorem k_lconst (C0 : CX p s m args meth c w rt ml cc Dg cA B scr xs L R d n0 r) {pc : Nat} {ls : Lc} {st : List AV} {σ : Mem} {v : Fin 2} (hd : decode cc pc = .ok (.lconst v, 1)) (hk : AK p l e R s m args below meth c ml Dg cA B scr ph n0 Q r (pc + 1) ls (vl ((v : Nat) : Int) :: st) σ) : AK p l e R s m args below meth c ml Dg cA B scr ph n0 Q r pc ls st σ := by
  obtain ⟨hx, hb, hml, hown, hts, hK, hlocks, hrt, hini, hbs, hscr, hstr, hfr, hlo, hcl, hsl⟩ := C0
  refine ⟨hk.1, fun H locs lsR hn rel => ?_⟩
  have hv := v.isLt
  exact lv_lconst hx hb hd (by show Int64.ofNat _ = Int64.ofInt _; exact (Int64.ofInt_eq_ofNat (n := (v : Nat))).symm) (hk.2 H locs lsR hn (rel.stk (List.forall_mem_cons.mpr ⟨by show rng64 _; unfold rng64; omega, rel.top⟩)))
theorem k_null (C0 : CX p s m args meth c w rt ml cc Dg cA B scr xs L R d n0 r) {pc : Nat} {ls : Lc} {st : List AV} {σ : Mem} (hd : decode cc pc = .ok (.aconst_null, 1)) (hk : AK p l e R s m args below meth c ml Dg cA B scr ph n0 Q r (pc + 1) ls (vn :: st) σ) : AK p l e R s m args below meth c ml Dg cA B scr ph n0 Q r pc ls st σ := by
  obtain ⟨hx, hb, hml, hown, hts, hK, hlocks, hrt, hini, hbs, hscr, hstr, hfr, hlo, hcl, hsl⟩ := C0
  refine ⟨hk.1, fun H locs lsR hn rel => ?_⟩
  exact lv_null hx hb hd (hk.2 H locs lsR hn (rel.stk (List.forall_mem_cons.mpr ⟨trivial, rel.top⟩)))
theorem k_iload_n (C0 : CX p s m args meth c w rt ml cc Dg cA B scr xs L R d n0 r) {pc : Nat} {ls : Lc} {st : List AV} {σ : Mem} {k : Fin 4} {a : Int} (hd : decode cc pc = .ok (.iload_n k, 1)) (hl : lkL k ls = some (.inl a)) (hk : AK p l e R s m args below meth c ml Dg cA B scr ph n0 Q r (pc + 1) ls (.inl a :: st) σ) : AK p l e R s m args below meth c ml Dg cA B scr ph n0 Q r pc ls st σ := by
  obtain ⟨hx, hb, hml, hown, hts, hK, hlocks, hrt, hini, hbs, hscr, hstr, hfr, hlo, hcl, hsl⟩ := C0
  refine ⟨hk.1, fun H locs lsR hn rel => ?_⟩
  obtain ⟨g1, g2⟩ := rel.loc hl
  exact lv_iload_n hx hb hd rfl g1 (hk.2 H locs lsR hn (rel.stk (List.forall_mem_cons.mpr ⟨g2, rel.top⟩)))
theorem k_iload (C0 : CX p s m args meth c w rt ml cc Dg cA B scr xs L R d n0 r) {pc : Nat} {ls : Lc} {st : List AV} {σ : Mem} {k : Nat} {a : Int} (hd : decode cc pc = .ok (.iload k, 2)) (hl : lkL k ls = some (.inl a)) (hk : AK p l e R s m args below meth c ml Dg cA B scr ph n0 Q r (pc + 2) ls (.inl a :: st) σ) : AK p l e R s m args below meth c ml Dg cA B scr ph n0 Q r pc ls st σ := by
  obtain ⟨hx, hb, hml, hown, hts, hK, hlocks, hrt, hini, hbs, hscr, hstr, hfr, hlo, hcl, hsl⟩ := C0
  refine ⟨hk.1, fun H locs lsR hn rel => ?_⟩
  obtain ⟨g1, g2⟩ := rel.loc hl
  exact lv_iload hx hb hd g1 (hk.2 H locs lsR hn (rel.stk (List.forall_mem_cons.mpr ⟨g2, rel.top⟩)))
theorem k_lload_n (C0 : CX p s m args meth c w rt ml cc Dg cA B scr xs L R d n0 r) {pc : Nat} {ls : Lc} {st : List AV} {σ : Mem} {k : Fin 4} {a : Int} (hd : decode cc pc = .ok (.lload_n k, 1)) (hl : lkL k ls = some (vl a)) (hk : AK p l e R s m args below meth c ml Dg cA B scr ph n0 Q r (pc + 1) ls (vl a :: st) σ) : AK p l e R s m args below meth c ml Dg cA B scr ph n0 Q r pc ls st σ := by
  obtain ⟨hx, hb, hml, hown, hts, hK, hlocks, hrt, hini, hbs, hscr, hstr, hfr, hlo, hcl, hsl⟩ := C0
  refine ⟨hk.1, fun H locs lsR hn rel => ?_⟩
  obtain ⟨g1, g2⟩ := rel.loc hl
  exact lv_lload_n hx hb hd rfl g1 (hk.2 H locs lsR hn (rel.stk (List.forall_mem_cons.mpr ⟨g2, rel.top⟩)))
theorem k_lload (C0 : CX p s m args meth c w rt ml cc Dg cA B scr xs L R d n0 r) {pc : Nat} {ls : Lc} {st : List AV} {σ : Mem} {k : Nat} {a : Int} (hd : decode cc pc = .ok (.lload k, 2)) (hl : lkL k ls = some (vl a)) (hk : AK p l e R s m args below meth c ml Dg cA B scr ph n0 Q r (pc + 2) ls (vl a :: st) σ) : AK p l e R s m args below meth c ml Dg cA B scr ph n0 Q r pc ls st σ := by
  obtain ⟨hx, hb, hml, hown, hts, hK, hlocks, hrt, hini, hbs, hscr, hstr, hfr, hlo, hcl, hsl⟩ := C0
  refine ⟨hk.1, fun H locs lsR hn rel => ?_⟩
  obtain ⟨g1, g2⟩ := rel.loc hl
  exact lv_lload hx hb hd g1 (hk.2 H locs lsR hn (rel.stk (List.forall_mem_cons.mpr ⟨g2, rel.top⟩)))
theorem k_aload_n (C0 : CX p s m args meth c w rt ml cc Dg cA B scr xs L R d n0 r) {pc : Nat} {ls : Lc} {st : List AV} {σ : Mem} {k : Fin 4} {a : Option (Nat × Nat × Nat)} (hd : decode cc pc = .ok (.aload_n k, 1)) (hl : lkL k ls = some (.inr (.inr a))) (hk : AK p l e R s m args below meth c ml Dg cA B scr ph n0 Q r (pc + 1) ls (.inr (.inr a) :: st) σ) : AK p l e R s m args below meth c ml Dg cA B scr ph n0 Q r pc ls st σ := by
  obtain ⟨hx, hb, hml, hown, hts, hK, hlocks, hrt, hini, hbs, hscr, hstr, hfr, hlo, hcl, hsl⟩ := C0
  refine ⟨hk.1, fun H locs lsR hn rel => ?_⟩
  obtain ⟨g1, g2⟩ := rel.loc hl
  have kk := hk.2 H locs lsR hn (rel.stk (List.forall_mem_cons.mpr ⟨g2, rel.top⟩))
  rcases a with _ | ⟨t, n, a⟩
  · exact lv_aload_nN hx hb hd rfl g1 kk
  · have ea : ∃ x, adV B (.inr (.inr (some (t, n, a)))) = .ref x := by
      unfold adV
      simp only []
      split
      · exact ⟨_, rfl⟩
      · split
        · exact ⟨_, rfl⟩
        · exact ⟨_, rfl⟩
    obtain ⟨x, ea⟩ := ea
    rw [ea] at g1
    rw [List.map_cons, ea] at kk
    exact lv_aload_n hx hb hd rfl g1 kk
theorem k_aload (C0 : CX p s m args meth c w rt ml cc Dg cA B scr xs L R d n0 r) {pc : Nat} {ls : Lc} {st : List AV} {σ : Mem} {k : Nat} {a : Option (Nat × Nat × Nat)} (hd : decode cc pc = .ok (.aload k, 2)) (hl : lkL k ls = some (.inr (.inr a))) (hk : AK p l e R s m args below meth c ml Dg cA B scr ph n0 Q r (pc + 2) ls (.inr (.inr a) :: st) σ) : AK p l e R s m args below meth c ml Dg cA B scr ph n0 Q r pc ls st σ := by
  obtain ⟨hx, hb, hml, hown, hts, hK, hlocks, hrt, hini, hbs, hscr, hstr, hfr, hlo, hcl, hsl⟩ := C0
  refine ⟨hk.1, fun H locs lsR hn rel => ?_⟩
  obtain ⟨g1, g2⟩ := rel.loc hl
  have kk := hk.2 H locs lsR hn (rel.stk (List.forall_mem_cons.mpr ⟨g2, rel.top⟩))
  rcases a with _ | ⟨t, n, a⟩
  · exact lv_aloadN hx hb hd g1 kk
  · have ea : ∃ x, adV B (.inr (.inr (some (t, n, a)))) = .ref x := by
      unfold adV
      simp only []
      split
      · exact ⟨_, rfl⟩
      · split
        · exact ⟨_, rfl⟩
        · exact ⟨_, rfl⟩
    obtain ⟨x, ea⟩ := ea
    rw [ea] at g1
    rw [List.map_cons, ea] at kk
    exact lv_aload hx hb hd g1 kk
theorem k_istore_n (C0 : CX p s m args meth c w rt ml cc Dg cA B scr xs L R d n0 r) {pc : Nat} {ls : Lc} {st : List AV} {σ : Mem} {k : Fin 4} {a : Int} (hd : decode cc pc = .ok (.istore_n k, 1)) (hm : (k : Nat) < ml) (hk : AK p l e R s m args below meth c ml Dg cA B scr ph n0 Q r (pc + 1) (st1 k (.inl a) ls) st σ) : AK p l e R s m args below meth c ml Dg cA B scr ph n0 Q r pc ls (.inl a :: st) σ := by
  obtain ⟨hx, hb, hml, hown, hts, hK, hlocks, hrt, hini, hbs, hscr, hstr, hfr, hlo, hcl, hsl⟩ := C0
  refine ⟨hk.1, fun H locs lsR hn rel => ?_⟩
  obtain ⟨g2, g3⟩ := List.forall_mem_cons.mp rel.top
  exact lv_istore_n hx hb hd rfl rel.2.2.2.1 hm (st1_map B k (.inl a) ls).symm (fun ls2 h2 => hk.2 H locs ls2 hn (rel.st (i := k) h2 g2 st1_in (fun u hu => List.mem_cons_of_mem _ hu)))
theorem k_istore (C0 : CX p s m args meth c w rt ml cc Dg cA B scr xs L R d n0 r) {pc : Nat} {ls : Lc} {st : List AV} {σ : Mem} {k : Nat} {a : Int} (hd : decode cc pc = .ok (.istore k, 2)) (hm : k < ml) (hk : AK p l e R s m args below meth c ml Dg cA B scr ph n0 Q r (pc + 2) (st1 k (.inl a) ls) st σ) : AK p l e R s m args below meth c ml Dg cA B scr ph n0 Q r pc ls (.inl a :: st) σ := by
  obtain ⟨hx, hb, hml, hown, hts, hK, hlocks, hrt, hini, hbs, hscr, hstr, hfr, hlo, hcl, hsl⟩ := C0
  refine ⟨hk.1, fun H locs lsR hn rel => ?_⟩
  obtain ⟨g2, g3⟩ := List.forall_mem_cons.mp rel.top
  exact lv_istore hx hb hd rel.2.2.2.1 hm (st1_map B k (.inl a) ls).symm (fun ls2 h2 => hk.2 H locs ls2 hn (rel.st (i := k) h2 g2 st1_in (fun u hu => List.mem_cons_of_mem _ hu)))
theorem k_lstore_n (C0 : CX p s m args meth c w rt ml cc Dg cA B scr xs L R d n0 r) {pc : Nat} {ls : Lc} {st : List AV} {σ : Mem} {k : Fin 4} {a : Int} (hd : decode cc pc = .ok (.lstore_n k, 1)) (hm : (k : Nat) + 1 < ml) (hk : AK p l e R s m args below meth c ml Dg cA B scr ph n0 Q r (pc + 1) (st2 k (vl a) ls) st σ) : AK p l e R s m args below meth c ml Dg cA B scr ph n0 Q r pc ls (vl a :: st) σ := by
  obtain ⟨hx, hb, hml, hown, hts, hK, hlocks, hrt, hini, hbs, hscr, hstr, hfr, hlo, hcl, hsl⟩ := C0
  refine ⟨hk.1, fun H locs lsR hn rel => ?_⟩
  obtain ⟨g2, g3⟩ := List.forall_mem_cons.mp rel.top
  exact lv_lstore_n hx hb hd rfl rel.2.2.2.1 hm (st2_map B k (vl a) ls).symm (fun ls2 h2 => hk.2 H locs ls2 hn (rel.st (i := k) h2 g2 st2_in (fun u hu => List.mem_cons_of_mem _ hu)))
theorem k_lstore (C0 : CX p s m args meth c w rt ml cc Dg cA B scr xs L R d n0 r) {pc : Nat} {ls : Lc} {st : List AV} {σ : Mem} {k : Nat} {a : Int} (hd : decode cc pc = .ok (.lstore k, 2)) (hm : (k : Nat) + 1 < ml) (hk : AK p l e R s m args below meth c ml Dg cA B scr ph n0 Q r (pc + 2) (st2 k (vl a) ls) st σ) : AK p l e R s m args below meth c ml Dg cA B scr ph n0 Q r pc ls (vl a :: st) σ := by
  obtain ⟨hx, hb, hml, hown, hts, hK, hlocks, hrt, hini, hbs, hscr, hstr, hfr, hlo, hcl, hsl⟩ := C0
  refine ⟨hk.1, fun H locs lsR hn rel => ?_⟩
  obtain ⟨g2, g3⟩ := List.forall_mem_cons.mp rel.top
  exact lv_lstore hx hb hd rel.2.2.2.1 hm (st2_map B k (vl a) ls).symm (fun ls2 h2 => hk.2 H locs ls2 hn (rel.st (i := k) h2 g2 st2_in (fun u hu => List.mem_cons_of_mem _ hu)))
theorem k_astore_n (C0 : CX p s m args meth c w rt ml cc Dg cA B scr xs L R d n0 r) {pc : Nat} {ls : Lc} {st : List AV} {σ : Mem} {k : Fin 4} {t n a : Nat} (hd : decode cc pc = .ok (.astore_n k, 1)) (hm : (k : Nat) < ml) (hk : AK p l e R s m args below meth c ml Dg cA B scr ph n0 Q r (pc + 1) (st1 k (vr t n a) ls) st σ) : AK p l e R s m args below meth c ml Dg cA B scr ph n0 Q r pc ls (vr t n a :: st) σ := by
  obtain ⟨hx, hb, hml, hown, hts, hK, hlocks, hrt, hini, hbs, hscr, hstr, hfr, hlo, hcl, hsl⟩ := C0
  refine ⟨hk.1, fun H locs lsR hn rel => ?_⟩
  obtain ⟨g2, g3⟩ := List.forall_mem_cons.mp rel.top
  obtain ⟨x, ea⟩ : ∃ x, adV B (vr t n a) = .ref x := by
    unfold adV
    simp only []
    split
    · exact ⟨_, rfl⟩
    · split
      · exact ⟨_, rfl⟩
      · exact ⟨_, rfl⟩
  have em := st1_map B k (vr t n a) ls
  rw [List.map_cons, ea]
  rw [ea] at em
  exact lv_astore_n hx hb hd rfl rel.2.2.2.1 hm em.symm (fun ls2 h2 => hk.2 H locs ls2 hn (rel.st (i := k) h2 g2 st1_in (fun u hu => List.mem_cons_of_mem _ hu)))
theorem k_astore (C0 : CX p s m args meth c w rt ml cc Dg cA B scr xs L R d n0 r) {pc : Nat} {ls : Lc} {st : List AV} {σ : Mem} {k : Nat} {t n a : Nat} (hd : decode cc pc = .ok (.astore k, 2)) (hm : k < ml) (hk : AK p l e R s m args below meth c ml Dg cA B scr ph n0 Q r (pc + 2) (st1 k (vr t n a) ls) st σ) : AK p l e R s m args below meth c ml Dg cA B scr ph n0 Q r pc ls (vr t n a :: st) σ := by
  obtain ⟨hx, hb, hml, hown, hts, hK, hlocks, hrt, hini, hbs, hscr, hstr, hfr, hlo, hcl, hsl⟩ := C0
  refine ⟨hk.1, fun H locs lsR hn rel => ?_⟩
  obtain ⟨g2, g3⟩ := List.forall_mem_cons.mp rel.top
  obtain ⟨x, ea⟩ : ∃ x, adV B (vr t n a) = .ref x := by
    unfold adV
    simp only []
    split
    · exact ⟨_, rfl⟩
    · split
      · exact ⟨_, rfl⟩
      · exact ⟨_, rfl⟩
  have em := st1_map B k (vr t n a) ls
  rw [List.map_cons, ea]
  rw [ea] at em
  exact lv_astore hx hb hd rel.2.2.2.1 hm em.symm (fun ls2 h2 => hk.2 H locs ls2 hn (rel.st (i := k) h2 g2 st1_in (fun u hu => List.mem_cons_of_mem _ hu)))
theorem k_iinc (C0 : CX p s m args meth c w rt ml cc Dg cA B scr xs L R d n0 r) {pc : Nat} {ls : Lc} {st : List AV} {σ : Mem} {k : Nat} {v a : Int} (hd : decode cc pc = .ok (.iinc k v, 3)) (hm : k < ml) (hl : lkL k ls = some (.inl a)) (hk : AK p l e R s m args below meth c ml Dg cA B scr ph n0 Q r (pc + 3) (st1 k (.inl (w32 (a + v))) ls) st σ) : AK p l e R s m args below meth c ml Dg cA B scr ph n0 Q r pc ls st σ := by
  obtain ⟨hx, hb, hml, hown, hts, hK, hlocks, hrt, hini, hbs, hscr, hstr, hfr, hlo, hcl, hsl⟩ := C0
  refine ⟨hk.1, fun H locs lsR hn rel => ?_⟩
  obtain ⟨g1, g2⟩ := rel.loc hl
  obtain ⟨j, hj⟩ := List.getElem?_of_mem (List.mem_map.mpr ⟨(k, .inl a), lkL_mem hl, rfl⟩ : (k, adV B (.inl a)) ∈ ls.map fun q => (q.1, adV B q.2))
  exact lv_iinc hx hb hd rel.2.2.2.1 (k := j) hj (v := Int32.ofInt (w32 (a + v))) (i32_add a v).symm hm (st1_map B k (.inl (w32 (a + v))) ls).symm (fun ls2 h2 => hk.2 H locs ls2 hn (rel.st (i := k) (v := .inl (w32 (a + v))) h2 (w32_rng _) st1_in (fun u hu => hu)))
theorem k_iadd (C0 : CX p s m args meth c w rt ml cc Dg cA B scr xs L R d n0 r) {pc : Nat} {ls : Lc} {st : List AV} {σ : Mem} {a b : Int} (hd : decode cc pc = .ok (.iadd, 1)) (hk : AK p l e R s m args below meth c ml Dg cA B scr ph n0 Q r (pc + 1) ls (.inl (w32 (a + b)) :: st) σ) : AK p l e R s m args below meth c ml Dg cA B scr ph n0 Q r pc ls (.inl b :: .inl a :: st) σ := by
  obtain ⟨hx, hb, hml, hown, hts, hK, hlocks, hrt, hini, hbs, hscr, hstr, hfr, hlo, hcl, hsl⟩ := C0
  refine ⟨hk.1, fun H locs lsR hn rel => ?_⟩
  obtain ⟨g1, g2⟩ := List.forall_mem_cons.mp rel.top
  obtain ⟨g3, g4⟩ := List.forall_mem_cons.mp g2
  have kk := hk.2 H locs lsR hn (rel.stk (List.forall_mem_cons.mpr ⟨w32_rng _, g4⟩))
  rw [List.map_cons, show adV B (.inl (w32 (a + b))) = .int (Int32.ofInt (w32 (a + b))) from rfl, i32_add] at kk
  exact lv_iadd hx hb hd kk
theorem k_isub (C0 : CX p s m args meth c w rt ml cc Dg cA B scr xs L R d n0 r) {pc : Nat} {ls : Lc} {st : List AV} {σ : Mem} {a b : Int} (hd : decode cc pc = .ok (.isub, 1)) (hk : AK p l e R s m args below meth c ml Dg cA B scr ph n0 Q r (pc + 1) ls (.inl (w32 (a - b)) :: st) σ) : AK p l e R s m args below meth c ml Dg cA B scr ph n0 Q r pc ls (.inl b :: .inl a :: st) σ := by
  obtain ⟨hx, hb, hml, hown, hts, hK, hlocks, hrt, hini, hbs, hscr, hstr, hfr, hlo, hcl, hsl⟩ := C0
  refine ⟨hk.1, fun H locs lsR hn rel => ?_⟩
  obtain ⟨g1, g2⟩ := List.forall_mem_cons.mp rel.top
  obtain ⟨g3, g4⟩ := List.forall_mem_cons.mp g2
  have kk := hk.2 H locs lsR hn (rel.stk (List.forall_mem_cons.mpr ⟨w32_rng _, g4⟩))
  rw [List.map_cons, show adV B (.inl (w32 (a - b))) = .int (Int32.ofInt (w32 (a - b))) from rfl, i32_sub] at kk
  exact lv_isub hx hb hd kk
theorem k_imul (C0 : CX p s m args meth c w rt ml cc Dg cA B scr xs L R d n0 r) {pc : Nat} {ls : Lc} {st : List AV} {σ : Mem} {a b : Int} (hd : decode cc pc = .ok (.imul, 1)) (hk : AK p l e R s m args below meth c ml Dg cA B scr ph n0 Q r (pc + 1) ls (.inl (w32 (a * b)) :: st) σ) : AK p l e R s m args below meth c ml Dg cA B scr ph n0 Q r pc ls (.inl b :: .inl a :: st) σ := by
  obtain ⟨hx, hb, hml, hown, hts, hK, hlocks, hrt, hini, hbs, hscr, hstr, hfr, hlo, hcl, hsl⟩ := C0
  refine ⟨hk.1, fun H locs lsR hn rel => ?_⟩
  obtain ⟨g1, g2⟩ := List.forall_mem_cons.mp rel.top
  obtain ⟨g3, g4⟩ := List.forall_mem_cons.mp g2
  have kk := hk.2 H locs lsR hn (rel.stk (List.forall_mem_cons.mpr ⟨w32_rng _, g4⟩))
  rw [List.map_cons, show adV B (.inl (w32 (a * b))) = .int (Int32.ofInt (w32 (a * b))) from rfl, i32_mul] at kk
  exact lv_imul hx hb hd kk
theorem k_iand (C0 : CX p s m args meth c w rt ml cc Dg cA B scr xs L R d n0 r) {pc : Nat} {ls : Lc} {st : List AV} {σ : Mem} {a b : Int} (hd : decode cc pc = .ok (.iand, 1)) (hk : AK p l e R s m args below meth c ml Dg cA B scr ph n0 Q r (pc + 1) ls (.inl (iAnd a b) :: st) σ) : AK p l e R s m args below meth c ml Dg cA B scr ph n0 Q r pc ls (.inl b :: .inl a :: st) σ := by
  obtain ⟨hx, hb, hml, hown, hts, hK, hlocks, hrt, hini, hbs, hscr, hstr, hfr, hlo, hcl, hsl⟩ := C0
  refine ⟨hk.1, fun H locs lsR hn rel => ?_⟩
  obtain ⟨g1, g2⟩ := List.forall_mem_cons.mp rel.top
  obtain ⟨g3, g4⟩ := List.forall_mem_cons.mp g2
  have kk := hk.2 H locs lsR hn (rel.stk (List.forall_mem_cons.mpr ⟨r32 _, g4⟩))
  rw [List.map_cons, show adV B (.inl (iAnd a b)) = .int (Int32.ofInt (iAnd a b)) from rfl, iAnd, o32] at kk
  exact lv_iand hx hb hd kk
theorem k_ior (C0 : CX p s m args meth c w rt ml cc Dg cA B scr xs L R d n0 r) {pc : Nat} {ls : Lc} {st : List AV} {σ : Mem} {a b : Int} (hd : decode cc pc = .ok (.ior, 1)) (hk : AK p l e R s m args below meth c ml Dg cA B scr ph n0 Q r (pc + 1) ls (.inl (iOr a b) :: st) σ) : AK p l e R s m args below meth c ml Dg cA B scr ph n0 Q r pc ls (.inl b :: .inl a :: st) σ := by
  obtain ⟨hx, hb, hml, hown, hts, hK, hlocks, hrt, hini, hbs, hscr, hstr, hfr, hlo, hcl, hsl⟩ := C0
  refine ⟨hk.1, fun H locs lsR hn rel => ?_⟩
  obtain ⟨g1, g2⟩ := List.forall_mem_cons.mp rel.top
  obtain ⟨g3, g4⟩ := List.forall_mem_cons.mp g2
  have kk := hk.2 H locs lsR hn (rel.stk (List.forall_mem_cons.mpr ⟨r32 _, g4⟩))
  rw [List.map_cons, show adV B (.inl (iOr a b)) = .int (Int32.ofInt (iOr a b)) from rfl, iOr, o32] at kk
  exact lv_ior hx hb hd kk
theorem k_ixor (C0 : CX p s m args meth c w rt ml cc Dg cA B scr xs L R d n0 r) {pc : Nat} {ls : Lc} {st : List AV} {σ : Mem} {a b : Int} (hd : decode cc pc = .ok (.ixor, 1)) (hk : AK p l e R s m args below meth c ml Dg cA B scr ph n0 Q r (pc + 1) ls (.inl (iXor a b) :: st) σ) : AK p l e R s m args below meth c ml Dg cA B scr ph n0 Q r pc ls (.inl b :: .inl a :: st) σ := by
  obtain ⟨hx, hb, hml, hown, hts, hK, hlocks, hrt, hini, hbs, hscr, hstr, hfr, hlo, hcl, hsl⟩ := C0
  refine ⟨hk.1, fun H locs lsR hn rel => ?_⟩
  obtain ⟨g1, g2⟩ := List.forall_mem_cons.mp rel.top
  obtain ⟨g3, g4⟩ := List.forall_mem_cons.mp g2
  have kk := hk.2 H locs lsR hn (rel.stk (List.forall_mem_cons.mpr ⟨r32 _, g4⟩))
  rw [List.map_cons, show adV B (.inl (iXor a b)) = .int (Int32.ofInt (iXor a b)) from rfl, iXor, o32] at kk
  exact lv_ixor hx hb hd kk
theorem k_ishl (C0 : CX p s m args meth c w rt ml cc Dg cA B scr xs L R d n0 r) {pc : Nat} {ls : Lc} {st : List AV} {σ : Mem} {a b : Int} (hd : decode cc pc = .ok (.ishl, 1)) (hk : AK p l e R s m args below meth c ml Dg cA B scr ph n0 Q r (pc + 1) ls (.inl (iShl a b) :: st) σ) : AK p l e R s m args below meth c ml Dg cA B scr ph n0 Q r pc ls (.inl b :: .inl a :: st) σ := by
  obtain ⟨hx, hb, hml, hown, hts, hK, hlocks, hrt, hini, hbs, hscr, hstr, hfr, hlo, hcl, hsl⟩ := C0
  refine ⟨hk.1, fun H locs lsR hn rel => ?_⟩
  obtain ⟨g1, g2⟩ := List.forall_mem_cons.mp rel.top
  obtain ⟨g3, g4⟩ := List.forall_mem_cons.mp g2
  have kk := hk.2 H locs lsR hn (rel.stk (List.forall_mem_cons.mpr ⟨r32 _, g4⟩))
  rw [List.map_cons, show adV B (.inl (iShl a b)) = .int (Int32.ofInt (iShl a b)) from rfl, iShl, o32] at kk
  exact lv_ishl hx hb hd kk
theorem k_ishr (C0 : CX p s m args meth c w rt ml cc Dg cA B scr xs L R d n0 r) {pc : Nat} {ls : Lc} {st : List AV} {σ : Mem} {a b : Int} (hd : decode cc pc = .ok (.ishr, 1)) (hk : AK p l e R s m args below meth c ml Dg cA B scr ph n0 Q r (pc + 1) ls (.inl (iShr a b) :: st) σ) : AK p l e R s m args below meth c ml Dg cA B scr ph n0 Q r pc ls (.inl b :: .inl a :: st) σ := by
  obtain ⟨hx, hb, hml, hown, hts, hK, hlocks, hrt, hini, hbs, hscr, hstr, hfr, hlo, hcl, hsl⟩ := C0
  refine ⟨hk.1, fun H locs lsR hn rel => ?_⟩
  obtain ⟨g1, g2⟩ := List.forall_mem_cons.mp rel.top
  obtain ⟨g3, g4⟩ := List.forall_mem_cons.mp g2
  have kk := hk.2 H locs lsR hn (rel.stk (List.forall_mem_cons.mpr ⟨r32 _, g4⟩))
  rw [List.map_cons, show adV B (.inl (iShr a b)) = .int (Int32.ofInt (iShr a b)) from rfl, iShr, o32] at kk
  exact lv_ishr hx hb hd kk
theorem k_iushr (C0 : CX p s m args meth c w rt ml cc Dg cA B scr xs L R d n0 r) {pc : Nat} {ls : Lc} {st : List AV} {σ : Mem} {a b : Int} (hd : decode cc pc = .ok (.iushr, 1)) (hk : AK p l e R s m args below meth c ml Dg cA B scr ph n0 Q r (pc + 1) ls (.inl (iUshr a b) :: st) σ) : AK p l e R s m args below meth c ml Dg cA B scr ph n0 Q r pc ls (.inl b :: .inl a :: st) σ := by
  obtain ⟨hx, hb, hml, hown, hts, hK, hlocks, hrt, hini, hbs, hscr, hstr, hfr, hlo, hcl, hsl⟩ := C0
  refine ⟨hk.1, fun H locs lsR hn rel => ?_⟩
  obtain ⟨g1, g2⟩ := List.forall_mem_cons.mp rel.top
  obtain ⟨g3, g4⟩ := List.forall_mem_cons.mp g2
  have kk := hk.2 H locs lsR hn (rel.stk (List.forall_mem_cons.mpr ⟨r32 _, g4⟩))
  rw [List.map_cons, show adV B (.inl (iUshr a b)) = .int (Int32.ofInt (iUshr a b)) from rfl, iUshr, o32] at kk
  exact lv_iushr hx hb hd rfl kk
theorem k_idiv (C0 : CX p s m args meth c w rt ml cc Dg cA B scr xs L R d n0 r) {pc : Nat} {ls : Lc} {st : List AV} {σ : Mem} {a b : Int} (hd : decode cc pc = .ok (.idiv, 1)) (h0 : ¬ b = 0) (hk : AK p l e R s m args below meth c ml Dg cA B scr ph n0 Q r (pc + 1) ls (.inl (iDiv a b) :: st) σ) : AK p l e R s m args below meth c ml Dg cA B scr ph n0 Q r pc ls (.inl b :: .inl a :: st) σ := by
  obtain ⟨hx, hb, hml, hown, hts, hK, hlocks, hrt, hini, hbs, hscr, hstr, hfr, hlo, hcl, hsl⟩ := C0
  refine ⟨hk.1, fun H locs lsR hn rel => ?_⟩
  obtain ⟨g1, g2⟩ := List.forall_mem_cons.mp rel.top
  obtain ⟨g3, g4⟩ := List.forall_mem_cons.mp g2
  have kk := hk.2 H locs lsR hn (rel.stk (List.forall_mem_cons.mpr ⟨r32 _, g4⟩))
  rw [List.map_cons, show adV B (.inl (iDiv a b)) = .int (Int32.ofInt (iDiv a b)) from rfl, iDiv, o32] at kk
  exact lv_idiv hx hb hd (fun z => h0 ((i32_inj g1 rng0).mp (z.trans z32.symm))) kk
theorem k_irem (C0 : CX p s m args meth c w rt ml cc Dg cA B scr xs L R d n0 r) {pc : Nat} {ls : Lc} {st : List AV} {σ : Mem} {a b : Int} (hd : decode cc pc = .ok (.irem, 1)) (h0 : ¬ b = 0) (hk : AK p l e R s m args below meth c ml Dg cA B scr ph n0 Q r (pc + 1) ls (.inl (iRem a b) :: st) σ) : AK p l e R s m args below meth c ml Dg cA B scr ph n0 Q r pc ls (.inl b :: .inl a :: st) σ := by
  obtain ⟨hx, hb, hml, hown, hts, hK, hlocks, hrt, hini, hbs, hscr, hstr, hfr, hlo, hcl, hsl⟩ := C0
  refine ⟨hk.1, fun H locs lsR hn rel => ?_⟩
  obtain ⟨g1, g2⟩ := List.forall_mem_cons.mp rel.top
  obtain ⟨g3, g4⟩ := List.forall_mem_cons.mp g2
  have kk := hk.2 H locs lsR hn (rel.stk (List.forall_mem_cons.mpr ⟨r32 _, g4⟩))
  rw [List.map_cons, show adV B (.inl (iRem a b)) = .int (Int32.ofInt (iRem a b)) from rfl, iRem, o32] at kk
  exact lv_irem hx hb hd (fun z => h0 ((i32_inj g1 rng0).mp (z.trans z32.symm))) kk
theorem k_ldiv (C0 : CX p s m args meth c w rt ml cc Dg cA B scr xs L R d n0 r) {pc : Nat} {ls : Lc} {st : List AV} {σ : Mem} {a b : Int} (hd : decode cc pc = .ok (.ldiv, 1)) (h0 : ¬ b = 0) (hk : AK p l e R s m args below meth c ml Dg cA B scr ph n0 Q r (pc + 1) ls (vl (lDiv a b) :: st) σ) : AK p l e R s m args below meth c ml Dg cA B scr ph n0 Q r pc ls (vl b :: vl a :: st) σ := by
  obtain ⟨hx, hb, hml, hown, hts, hK, hlocks, hrt, hini, hbs, hscr, hstr, hfr, hlo, hcl, hsl⟩ := C0
  refine ⟨hk.1, fun H locs lsR hn rel => ?_⟩
  obtain ⟨g1, g2⟩ := List.forall_mem_cons.mp rel.top
  obtain ⟨g3, g4⟩ := List.forall_mem_cons.mp g2
  have kk := hk.2 H locs lsR hn (rel.stk (List.forall_mem_cons.mpr ⟨r64 _, g4⟩))
  rw [List.map_cons, show adV B (vl (lDiv a b)) = .long (Int64.ofInt (lDiv a b)) from rfl, lDiv, o64] at kk
  exact lv_ldiv hx hb hd (fun z => h0 ((i64_inj g1 (by unfold rng64; omega)).mp (z.trans (by decide)))) kk
theorem k_lrem (C0 : CX p s m args meth c w rt ml cc Dg cA B scr xs L R d n0 r) {pc : Nat} {ls : Lc} {st : List AV} {σ : Mem} {a b : Int} (hd : decode cc pc = .ok (.lrem, 1)) (h0 : ¬ b = 0) (hk : AK p l e R s m args below meth c ml Dg cA B scr ph n0 Q r (pc + 1) ls (vl (lRem a b) :: st) σ) : AK p l e R s m args below meth c ml Dg cA B scr ph n0 Q r pc ls (vl b :: vl a :: st) σ := by
  obtain ⟨hx, hb, hml, hown, hts, hK, hlocks, hrt, hini, hbs, hscr, hstr, hfr, hlo, hcl, hsl⟩ := C0
  refine ⟨hk.1, fun H locs lsR hn rel => ?_⟩
  obtain ⟨g1, g2⟩ := List.forall_mem_cons.mp rel.top
  obtain ⟨g3, g4⟩ := List.forall_mem_cons.mp g2
  have kk := hk.2 H locs lsR hn (rel.stk (List.forall_mem_cons.mpr ⟨r64 _, g4⟩))
  rw [List.map_cons, show adV B (vl (lRem a b)) = .long (Int64.ofInt (lRem a b)) from rfl, lRem, o64] at kk
  exact lv_lrem hx hb hd (fun z => h0 ((i64_inj g1 (by unfold rng64; omega)).mp (z.trans (by decide)))) kk
theorem k_ladd (C0 : CX p s m args meth c w rt ml cc Dg cA B scr xs L R d n0 r) {pc : Nat} {ls : Lc} {st : List AV} {σ : Mem} {a b : Int} (hd : decode cc pc = .ok (.ladd, 1)) (hk : AK p l e R s m args below meth c ml Dg cA B scr ph n0 Q r (pc + 1) ls (vl (w64 (a + b)) :: st) σ) : AK p l e R s m args below meth c ml Dg cA B scr ph n0 Q r pc ls (vl b :: vl a :: st) σ := by
  obtain ⟨hx, hb, hml, hown, hts, hK, hlocks, hrt, hini, hbs, hscr, hstr, hfr, hlo, hcl, hsl⟩ := C0
  refine ⟨hk.1, fun H locs lsR hn rel => ?_⟩
  obtain ⟨g1, g2⟩ := List.forall_mem_cons.mp rel.top
  obtain ⟨g3, g4⟩ := List.forall_mem_cons.mp g2
  have kk := hk.2 H locs lsR hn (rel.stk (List.forall_mem_cons.mpr ⟨w64_rng _, g4⟩))
  rw [List.map_cons, show adV B (vl (w64 (a + b))) = .long (Int64.ofInt (w64 (a + b))) from rfl, i64_add] at kk
  exact lv_ladd hx hb hd kk
theorem k_lsub (C0 : CX p s m args meth c w rt ml cc Dg cA B scr xs L R d n0 r) {pc : Nat} {ls : Lc} {st : List AV} {σ : Mem} {a b : Int} (hd : decode cc pc = .ok (.lsub, 1)) (hk : AK p l e R s m args below meth c ml Dg cA B scr ph n0 Q r (pc + 1) ls (vl (w64 (a - b)) :: st) σ) : AK p l e R s m args below meth c ml Dg cA B scr ph n0 Q r pc ls (vl b :: vl a :: st) σ := by
  obtain ⟨hx, hb, hml, hown, hts, hK, hlocks, hrt, hini, hbs, hscr, hstr, hfr, hlo, hcl, hsl⟩ := C0
  refine ⟨hk.1, fun H locs lsR hn rel => ?_⟩
  obtain ⟨g1, g2⟩ := List.forall_mem_cons.mp rel.top
  obtain ⟨g3, g4⟩ := List.forall_mem_cons.mp g2
  have kk := hk.2 H locs lsR hn (rel.stk (List.forall_mem_cons.mpr ⟨w64_rng _, g4⟩))
  rw [List.map_cons, show adV B (vl (w64 (a - b))) = .long (Int64.ofInt (w64 (a - b))) from rfl, i64_sub] at kk
  exact lv_lsub hx hb hd kk
theorem k_lmul (C0 : CX p s m args meth c w rt ml cc Dg cA B scr xs L R d n0 r) {pc : Nat} {ls : Lc} {st : List AV} {σ : Mem} {a b : Int} (hd : decode cc pc = .ok (.lmul, 1)) (hk : AK p l e R s m args below meth c ml Dg cA B scr ph n0 Q r (pc + 1) ls (vl (w64 (a * b)) :: st) σ) : AK p l e R s m args below meth c ml Dg cA B scr ph n0 Q r pc ls (vl b :: vl a :: st) σ := by
  obtain ⟨hx, hb, hml, hown, hts, hK, hlocks, hrt, hini, hbs, hscr, hstr, hfr, hlo, hcl, hsl⟩ := C0
  refine ⟨hk.1, fun H locs lsR hn rel => ?_⟩
  obtain ⟨g1, g2⟩ := List.forall_mem_cons.mp rel.top
  obtain ⟨g3, g4⟩ := List.forall_mem_cons.mp g2
  have kk := hk.2 H locs lsR hn (rel.stk (List.forall_mem_cons.mpr ⟨w64_rng _, g4⟩))
  rw [List.map_cons, show adV B (vl (w64 (a * b))) = .long (Int64.ofInt (w64 (a * b))) from rfl, i64_mul] at kk
  exact lv_lmul hx hb hd kk
theorem k_land (C0 : CX p s m args meth c w rt ml cc Dg cA B scr xs L R d n0 r) {pc : Nat} {ls : Lc} {st : List AV} {σ : Mem} {a b : Int} (hd : decode cc pc = .ok (.land, 1)) (hk : AK p l e R s m args below meth c ml Dg cA B scr ph n0 Q r (pc + 1) ls (vl (lAnd a b) :: st) σ) : AK p l e R s m args below meth c ml Dg cA B scr ph n0 Q r pc ls (vl b :: vl a :: st) σ := by
  obtain ⟨hx, hb, hml, hown, hts, hK, hlocks, hrt, hini, hbs, hscr, hstr, hfr, hlo, hcl, hsl⟩ := C0
  refine ⟨hk.1, fun H locs lsR hn rel => ?_⟩
  obtain ⟨g1, g2⟩ := List.forall_mem_cons.mp rel.top
  obtain ⟨g3, g4⟩ := List.forall_mem_cons.mp g2
  have kk := hk.2 H locs lsR hn (rel.stk (List.forall_mem_cons.mpr ⟨r64 _, g4⟩))
  rw [List.map_cons, show adV B (vl (lAnd a b)) = .long (Int64.ofInt (lAnd a b)) from rfl, lAnd, o64] at kk
  exact lv_land hx hb hd kk
theorem k_lcmp (C0 : CX p s m args meth c w rt ml cc Dg cA B scr xs L R d n0 r) {pc : Nat} {ls : Lc} {st : List AV} {σ : Mem} {a b : Int} (hd : decode cc pc = .ok (.lcmp, 1)) (hk : AK p l e R s m args below meth c ml Dg cA B scr ph n0 Q r (pc + 1) ls (.inl (lCmp a b) :: st) σ) : AK p l e R s m args below meth c ml Dg cA B scr ph n0 Q r pc ls (vl b :: vl a :: st) σ := by
  obtain ⟨hx, hb, hml, hown, hts, hK, hlocks, hrt, hini, hbs, hscr, hstr, hfr, hlo, hcl, hsl⟩ := C0
  refine ⟨hk.1, fun H locs lsR hn rel => ?_⟩
  obtain ⟨g1, g2⟩ := List.forall_mem_cons.mp rel.top
  obtain ⟨g3, g4⟩ := List.forall_mem_cons.mp g2
  have kk := hk.2 H locs lsR hn (rel.stk (List.forall_mem_cons.mpr ⟨by show rng32 (lCmp a b); unfold lCmp rng32; split <;> (try split) <;> omega, g4⟩))
  rw [List.map_cons, show adV B (.inl (lCmp a b)) = .int (Int32.ofInt (lCmp a b)) from rfl, cmp_of g3 g1] at kk
  exact W.lcmp hx hb hd kk
theorem k_ineg (C0 : CX p s m args meth c w rt ml cc Dg cA B scr xs L R d n0 r) {pc : Nat} {ls : Lc} {st : List AV} {σ : Mem} {a : Int} (hd : decode cc pc = .ok (.ineg, 1)) (hk : AK p l e R s m args below meth c ml Dg cA B scr ph n0 Q r (pc + 1) ls (.inl (w32 (-a)) :: st) σ) : AK p l e R s m args below meth c ml Dg cA B scr ph n0 Q r pc ls (.inl a :: st) σ := by
  obtain ⟨hx, hb, hml, hown, hts, hK, hlocks, hrt, hini, hbs, hscr, hstr, hfr, hlo, hcl, hsl⟩ := C0
  refine ⟨hk.1, fun H locs lsR hn rel => ?_⟩
  obtain ⟨g1, g2⟩ := List.forall_mem_cons.mp rel.top
  have kk := hk.2 H locs lsR hn (rel.stk (List.forall_mem_cons.mpr ⟨w32_rng _, g2⟩))
  rw [List.map_cons, show adV B (.inl (w32 (-a))) = .int (Int32.ofInt (w32 (-a))) from rfl, i32_neg] at kk
  exact lv_ineg hx hb hd kk
theorem k_i2l (C0 : CX p s m args meth c w rt ml cc Dg cA B scr xs L R d n0 r) {pc : Nat} {ls : Lc} {st : List AV} {σ : Mem} {a : Int} (hd : decode cc pc = .ok (.i2l, 1)) (hk : AK p l e R s m args below meth c ml Dg cA B scr ph n0 Q r (pc + 1) ls (vl a :: st) σ) : AK p l e R s m args below meth c ml Dg cA B scr ph n0 Q r pc ls (.inl a :: st) σ := by
  obtain ⟨hx, hb, hml, hown, hts, hK, hlocks, hrt, hini, hbs, hscr, hstr, hfr, hlo, hcl, hsl⟩ := C0
  refine ⟨hk.1, fun H locs lsR hn rel => ?_⟩
  obtain ⟨g1, g2⟩ := List.forall_mem_cons.mp rel.top
  have g1 : rng32 a := g1
  exact lv_i2l hx hb hd (i_l g1) (hk.2 H locs lsR hn (rel.stk (List.forall_mem_cons.mpr ⟨by show rng64 a; unfold rng32 at g1; unfold rng64; omega, g2⟩)))
theorem k_l2i (C0 : CX p s m args meth c w rt ml cc Dg cA B scr xs L R d n0 r) {pc : Nat} {ls : Lc} {st : List AV} {σ : Mem} {a : Int} (hd : decode cc pc = .ok (.l2i, 1)) (hk : AK p l e R s m args below meth c ml Dg cA B scr ph n0 Q r (pc + 1) ls (.inl (w32 a) :: st) σ) : AK p l e R s m args below meth c ml Dg cA B scr ph n0 Q r pc ls (vl a :: st) σ := by
  obtain ⟨hx, hb, hml, hown, hts, hK, hlocks, hrt, hini, hbs, hscr, hstr, hfr, hlo, hcl, hsl⟩ := C0
  refine ⟨hk.1, fun H locs lsR hn rel => ?_⟩
  obtain ⟨g1, g2⟩ := List.forall_mem_cons.mp rel.top
  exact lv_l2i hx hb hd (l_i a) (hk.2 H locs lsR hn (rel.stk (List.forall_mem_cons.mpr ⟨w32_rng _, g2⟩)))
theorem k_dup (C0 : CX p s m args meth c w rt ml cc Dg cA B scr xs L R d n0 r) {pc : Nat} {ls : Lc} {st : List AV} {σ : Mem} {v : AV} (hd : decode cc pc = .ok (.dup, 1)) (hc : cat2 v = false) (hk : AK p l e R s m args below meth c ml Dg cA B scr ph n0 Q r (pc + 1) ls (v :: v :: st) σ) : AK p l e R s m args below meth c ml Dg cA B scr ph n0 Q r pc ls (v :: st) σ := by
  obtain ⟨hx, hb, hml, hown, hts, hK, hlocks, hrt, hini, hbs, hscr, hstr, hfr, hlo, hcl, hsl⟩ := C0
  refine ⟨hk.1, fun H locs lsR hn rel => ?_⟩
  obtain ⟨g1, g2⟩ := List.forall_mem_cons.mp rel.top
  exact lv_dup hx hb hd (c1 hc) (hk.2 H locs lsR hn (rel.stk (List.forall_mem_cons.mpr ⟨g1, rel.top⟩)))
theorem k_pop (C0 : CX p s m args meth c w rt ml cc Dg cA B scr xs L R d n0 r) {pc : Nat} {ls : Lc} {st : List AV} {σ : Mem} {v : AV} (hd : decode cc pc = .ok (.pop, 1)) (hc : cat2 v = false) (hk : AK p l e R s m args below meth c ml Dg cA B scr ph n0 Q r (pc + 1) ls st σ) : AK p l e R s m args below meth c ml Dg cA B scr ph n0 Q r pc ls (v :: st) σ := by
  obtain ⟨hx, hb, hml, hown, hts, hK, hlocks, hrt, hini, hbs, hscr, hstr, hfr, hlo, hcl, hsl⟩ := C0
  refine ⟨hk.1, fun H locs lsR hn rel => ?_⟩
  obtain ⟨g1, g2⟩ := List.forall_mem_cons.mp rel.top
  exact lv_pop hx hb hd (c1 hc) (hk.2 H locs lsR hn (rel.stk g2))
theorem k_dup2_2 (C0 : CX p s m args meth c w rt ml cc Dg cA B scr xs L R d n0 r) {pc : Nat} {ls : Lc} {st : List AV} {σ : Mem} {v : AV} (hd : decode cc pc = .ok (.dup2, 1)) (hc : cat2 v = true) (hk : AK p l e R s m args below meth c ml Dg cA B scr ph n0 Q r (pc + 1) ls (v :: v :: st) σ) : AK p l e R s m args below meth c ml Dg cA B scr ph n0 Q r pc ls (v :: st) σ := by
  obtain ⟨hx, hb, hml, hown, hts, hK, hlocks, hrt, hini, hbs, hscr, hstr, hfr, hlo, hcl, hsl⟩ := C0
  refine ⟨hk.1, fun H locs lsR hn rel => ?_⟩
  obtain ⟨g1, g2⟩ := List.forall_mem_cons.mp rel.top
  exact lv_dup2_2 hx hb hd (c2 hc) (hk.2 H locs lsR hn (rel.stk (List.forall_mem_cons.mpr ⟨g1, rel.top⟩)))
theorem k_dup2_11 (C0 : CX p s m args meth c w rt ml cc Dg cA B scr xs L R d n0 r) {pc : Nat} {ls : Lc} {st : List AV} {σ : Mem} {v u : AV} (hd : decode cc pc = .ok (.dup2, 1)) (hc : cat2 v = false) (hc2 : cat2 u = false) (hk : AK p l e R s m args below meth c ml Dg cA B scr ph n0 Q r (pc + 1) ls (v :: u :: v :: u :: st) σ) : AK p l e R s m args below meth c ml Dg cA B scr ph n0 Q r pc ls (v :: u :: st) σ := by
  obtain ⟨hx, hb, hml, hown, hts, hK, hlocks, hrt, hini, hbs, hscr, hstr, hfr, hlo, hcl, hsl⟩ := C0
  refine ⟨hk.1, fun H locs lsR hn rel => ?_⟩
  obtain ⟨g1, g2⟩ := List.forall_mem_cons.mp rel.top
  obtain ⟨g3, g4⟩ := List.forall_mem_cons.mp g2
  exact lv_dup2_11 hx hb hd (c1 hc) (c1 hc2) (hk.2 H locs lsR hn (rel.stk (List.forall_mem_cons.mpr ⟨g1, List.forall_mem_cons.mpr ⟨g3, rel.top⟩⟩)))
theorem k_goto (C0 : CX p s m args meth c w rt ml cc Dg cA B scr xs L R d n0 r) {pc : Nat} {ls : Lc} {st : List AV} {σ : Mem} {off : Int} (hd : decode cc pc = .ok (.goto off, 3)) (ho : 0 ≤ (pc : Int) + off) (hk : AK p l e R s m args below meth c ml Dg cA B scr ph n0 Q r (br pc off) ls st σ) : AK p l e R s m args below meth c ml Dg cA B scr ph n0 Q r pc ls st σ := by
  obtain ⟨hx, hb, hml, hown, hts, hK, hlocks, hrt, hini, hbs, hscr, hstr, hfr, hlo, hcl, hsl⟩ := C0
  refine ⟨hk.1, fun H locs lsR hn rel => ?_⟩
  exact lv_goto hx hb hd (br_of ho) (hk.2 H locs lsR hn rel)
theorem k_icmp_eq (C0 : CX p s m args meth c w rt ml cc Dg cA B scr xs L R d n0 r) {pc : Nat} {ls : Lc} {st : List AV} {σ : Mem} {a b : Int} {off : Int} (hd : decode cc pc = .ok (.if_icmp .eq off, 3)) (ho : 0 ≤ (pc : Int) + off) (hg : rN σ ≤ rN r.2) (ht : a = b → AK p l e R s m args below meth c ml Dg cA B scr ph n0 Q r (br pc off) ls st σ) (he : ¬ a = b → AK p l e R s m args below meth c ml Dg cA B scr ph n0 Q r (pc + 3) ls st σ) : AK p l e R s m args below meth c ml Dg cA B scr ph n0 Q r pc ls (.inl b :: .inl a :: st) σ := by
  obtain ⟨hx, hb, hml, hown, hts, hK, hlocks, hrt, hini, hbs, hscr, hstr, hfr, hlo, hcl, hsl⟩ := C0
  refine ⟨hg, fun H locs lsR hn rel => ?_⟩
  obtain ⟨gb, g2⟩ := List.forall_mem_cons.mp rel.top
  obtain ⟨ga, g4⟩ := List.forall_mem_cons.mp g2
  exact lv_icmp_eq hx hb hd (br_of ho) (fun z => (ht (by have q := z; rw [i32_inj ga gb] at q; omega)).2 H locs lsR hn (rel.stk g4)) (fun z => (he (by have q := z; rw [i32_inj ga gb] at q; omega)).2 H locs lsR hn (rel.stk g4))
theorem k_if_eq (C0 : CX p s m args meth c w rt ml cc Dg cA B scr xs L R d n0 r) {pc : Nat} {ls : Lc} {st : List AV} {σ : Mem} {a : Int} {off : Int} (hd : decode cc pc = .ok (.ifCond .eq off, 3)) (ho : 0 ≤ (pc : Int) + off) (hg : rN σ ≤ rN r.2) (ht : a = 0 → AK p l e R s m args below meth c ml Dg cA B scr ph n0 Q r (br pc off) ls st σ) (he : ¬ a = 0 → AK p l e R s m args below meth c ml Dg cA B scr ph n0 Q r (pc + 3) ls st σ) : AK p l e R s m args below meth c ml Dg cA B scr ph n0 Q r pc ls (.inl a :: st) σ := by
  obtain ⟨hx, hb, hml, hown, hts, hK, hlocks, hrt, hini, hbs, hscr, hstr, hfr, hlo, hcl, hsl⟩ := C0
  refine ⟨hg, fun H locs lsR hn rel => ?_⟩
  obtain ⟨ga, g4⟩ := List.forall_mem_cons.mp rel.top
  have gb := rng0
  exact lv_if_eq hx hb hd (br_of ho) (fun z => (ht (by have q := z; rw [← z32, i32_inj ga gb] at q; omega)).2 H locs lsR hn (rel.stk g4)) (fun z => (he (by have q := z; rw [← z32, i32_inj ga gb] at q; omega)).2 H locs lsR hn (rel.stk g4))
theorem k_icmp_ne (C0 : CX p s m args meth c w rt ml cc Dg cA B scr xs L R d n0 r) {pc : Nat} {ls : Lc} {st : List AV} {σ : Mem} {a b : Int} {off : Int} (hd : decode cc pc = .ok (.if_icmp .ne off, 3)) (ho : 0 ≤ (pc : Int) + off) (hg : rN σ ≤ rN r.2) (ht : ¬ a = b → AK p l e R s m args below meth c ml Dg cA B scr ph n0 Q r (br pc off) ls st σ) (he : a = b → AK p l e R s m args below meth c ml Dg cA B scr ph n0 Q r (pc + 3) ls st σ) : AK p l e R s m args below meth c ml Dg cA B scr ph n0 Q r pc ls (.inl b :: .inl a :: st) σ := by
  obtain ⟨hx, hb, hml, hown, hts, hK, hlocks, hrt, hini, hbs, hscr, hstr, hfr, hlo, hcl, hsl⟩ := C0
  refine ⟨hg, fun H locs lsR hn rel => ?_⟩
  obtain ⟨gb, g2⟩ := List.forall_mem_cons.mp rel.top
  obtain ⟨ga, g4⟩ := List.forall_mem_cons.mp g2
  exact lv_icmp_ne hx hb hd (br_of ho) (fun z => (ht (by have q := z; rw [i32_inj ga gb] at q; omega)).2 H locs lsR hn (rel.stk g4)) (fun z => (he (by have q := z; rw [i32_inj ga gb] at q; omega)).2 H locs lsR hn (rel.stk g4))
theorem k_if_ne (C0 : CX p s m args meth c w rt ml cc Dg cA B scr xs L R d n0 r) {pc : Nat} {ls : Lc} {st : List AV} {σ : Mem} {a : Int} {off : Int} (hd : decode cc pc = .ok (.ifCond .ne off, 3)) (ho : 0 ≤ (pc : Int) + off) (hg : rN σ ≤ rN r.2) (ht : ¬ a = 0 → AK p l e R s m args below meth c ml Dg cA B scr ph n0 Q r (br pc off) ls st σ) (he : a = 0 → AK p l e R s m args below meth c ml Dg cA B scr ph n0 Q r (pc + 3) ls st σ) : AK p l e R s m args below meth c ml Dg cA B scr ph n0 Q r pc ls (.inl a :: st) σ := by
  obtain ⟨hx, hb, hml, hown, hts, hK, hlocks, hrt, hini, hbs, hscr, hstr, hfr, hlo, hcl, hsl⟩ := C0
  refine ⟨hg, fun H locs lsR hn rel => ?_⟩
  obtain ⟨ga, g4⟩ := List.forall_mem_cons.mp rel.top
  have gb := rng0
  exact lv_if_ne hx hb hd (br_of ho) (fun z => (ht (by have q := z; rw [← z32, i32_inj ga gb] at q; omega)).2 H locs lsR hn (rel.stk g4)) (fun z => (he (by have q := z; rw [← z32, i32_inj ga gb] at q; omega)).2 H locs lsR hn (rel.stk g4))
theorem k_icmp_lt (C0 : CX p s m args meth c w rt ml cc Dg cA B scr xs L R d n0 r) {pc : Nat} {ls : Lc} {st : List AV} {σ : Mem} {a b : Int} {off : Int} (hd : decode cc pc = .ok (.if_icmp .lt off, 3)) (ho : 0 ≤ (pc : Int) + off) (hg : rN σ ≤ rN r.2) (ht : a < b → AK p l e R s m args below meth c ml Dg cA B scr ph n0 Q r (br pc off) ls st σ) (he : ¬ a < b → AK p l e R s m args below meth c ml Dg cA B scr ph n0 Q r (pc + 3) ls st σ) : AK p l e R s m args below meth c ml Dg cA B scr ph n0 Q r pc ls (.inl b :: .inl a :: st) σ := by
  obtain ⟨hx, hb, hml, hown, hts, hK, hlocks, hrt, hini, hbs, hscr, hstr, hfr, hlo, hcl, hsl⟩ := C0
  refine ⟨hg, fun H locs lsR hn rel => ?_⟩
  obtain ⟨gb, g2⟩ := List.forall_mem_cons.mp rel.top
  obtain ⟨ga, g4⟩ := List.forall_mem_cons.mp g2
  exact lv_icmp_lt hx hb hd (br_of ho) (fun z => (ht (by have q := z; rw [i32_lt ga gb] at q; omega)).2 H locs lsR hn (rel.stk g4)) (fun z => (he (by have q := z; rw [i32_lt ga gb] at q; omega)).2 H locs lsR hn (rel.stk g4))
theorem k_if_lt (C0 : CX p s m args meth c w rt ml cc Dg cA B scr xs L R d n0 r) {pc : Nat} {ls : Lc} {st : List AV} {σ : Mem} {a : Int} {off : Int} (hd : decode cc pc = .ok (.ifCond .lt off, 3)) (ho : 0 ≤ (pc : Int) + off) (hg : rN σ ≤ rN r.2) (ht : a < 0 → AK p l e R s m args below meth c ml Dg cA B scr ph n0 Q r (br pc off) ls st σ) (he : ¬ a < 0 → AK p l e R s m args below meth c ml Dg cA B scr ph n0 Q r (pc + 3) ls st σ) : AK p l e R s m args below meth c ml Dg cA B scr ph n0 Q r pc ls (.inl a :: st) σ := by
  obtain ⟨hx, hb, hml, hown, hts, hK, hlocks, hrt, hini, hbs, hscr, hstr, hfr, hlo, hcl, hsl⟩ := C0
  refine ⟨hg, fun H locs lsR hn rel => ?_⟩
  obtain ⟨ga, g4⟩ := List.forall_mem_cons.mp rel.top
  have gb := rng0
  exact lv_if_lt hx hb hd (br_of ho) (fun z => (ht (by have q := z; rw [← z32, i32_lt ga gb] at q; omega)).2 H locs lsR hn (rel.stk g4)) (fun z => (he (by have q := z; rw [← z32, i32_lt ga gb] at q; omega)).2 H locs lsR hn (rel.stk g4))
theorem k_icmp_ge (C0 : CX p s m args meth c w rt ml cc Dg cA B scr xs L R d n0 r) {pc : Nat} {ls : Lc} {st : List AV} {σ : Mem} {a b : Int} {off : Int} (hd : decode cc pc = .ok (.if_icmp .ge off, 3)) (ho : 0 ≤ (pc : Int) + off) (hg : rN σ ≤ rN r.2) (ht : ¬ a < b → AK p l e R s m args below meth c ml Dg cA B scr ph n0 Q r (br pc off) ls st σ) (he : a < b → AK p l e R s m args below meth c ml Dg cA B scr ph n0 Q r (pc + 3) ls st σ) : AK p l e R s m args below meth c ml Dg cA B scr ph n0 Q r pc ls (.inl b :: .inl a :: st) σ := by
  obtain ⟨hx, hb, hml, hown, hts, hK, hlocks, hrt, hini, hbs, hscr, hstr, hfr, hlo, hcl, hsl⟩ := C0
  refine ⟨hg, fun H locs lsR hn rel => ?_⟩
  obtain ⟨gb, g2⟩ := List.forall_mem_cons.mp rel.top
  obtain ⟨ga, g4⟩ := List.forall_mem_cons.mp g2
  exact lv_icmp_ge hx hb hd (br_of ho) (fun z => (ht (by have q := z; rw [i32_le gb ga] at q; omega)).2 H locs lsR hn (rel.stk g4)) (fun z => (he (by have q := z; rw [i32_le gb ga] at q; omega)).2 H locs lsR hn (rel.stk g4))
theorem k_if_ge (C0 : CX p s m args meth c w rt ml cc Dg cA B scr xs L R d n0 r) {pc : Nat} {ls : Lc} {st : List AV} {σ : Mem} {a : Int} {off : Int} (hd : decode cc pc = .ok (.ifCond .ge off, 3)) (ho : 0 ≤ (pc : Int) + off) (hg : rN σ ≤ rN r.2) (ht : ¬ a < 0 → AK p l e R s m args below meth c ml Dg cA B scr ph n0 Q r (br pc off) ls st σ) (he : a < 0 → AK p l e R s m args below meth c ml Dg cA B scr ph n0 Q r (pc + 3) ls st σ) : AK p l e R s m args below meth c ml Dg cA B scr ph n0 Q r pc ls (.inl a :: st) σ := by
  obtain ⟨hx, hb, hml, hown, hts, hK, hlocks, hrt, hini, hbs, hscr, hstr, hfr, hlo, hcl, hsl⟩ := C0
  refine ⟨hg, fun H locs lsR hn rel => ?_⟩
  obtain ⟨ga, g4⟩ := List.forall_mem_cons.mp rel.top
  have gb := rng0
  exact lv_if_ge hx hb hd (br_of ho) (fun z => (ht (by have q := z; rw [← z32, i32_le gb ga] at q; omega)).2 H locs lsR hn (rel.stk g4)) (fun z => (he (by have q := z; rw [← z32, i32_le gb ga] at q; omega)).2 H locs lsR hn (rel.stk g4))
theorem k_icmp_gt (C0 : CX p s m args meth c w rt ml cc Dg cA B scr xs L R d n0 r) {pc : Nat} {ls : Lc} {st : List AV} {σ : Mem} {a b : Int} {off : Int} (hd : decode cc pc = .ok (.if_icmp .gt off, 3)) (ho : 0 ≤ (pc : Int) + off) (hg : rN σ ≤ rN r.2) (ht : b < a → AK p l e R s m args below meth c ml Dg cA B scr ph n0 Q r (br pc off) ls st σ) (he : ¬ b < a → AK p l e R s m args below meth c ml Dg cA B scr ph n0 Q r (pc + 3) ls st σ) : AK p l e R s m args below meth c ml Dg cA B scr ph n0 Q r pc ls (.inl b :: .inl a :: st) σ := by
  obtain ⟨hx, hb, hml, hown, hts, hK, hlocks, hrt, hini, hbs, hscr, hstr, hfr, hlo, hcl, hsl⟩ := C0
  refine ⟨hg, fun H locs lsR hn rel => ?_⟩
  obtain ⟨gb, g2⟩ := List.forall_mem_cons.mp rel.top
  obtain ⟨ga, g4⟩ := List.forall_mem_cons.mp g2
  exact lv_icmp_gt hx hb hd (br_of ho) (fun z => (ht (by have q := z; rw [i32_lt gb ga] at q; omega)).2 H locs lsR hn (rel.stk g4)) (fun z => (he (by have q := z; rw [i32_lt gb ga] at q; omega)).2 H locs lsR hn (rel.stk g4))
theorem k_if_gt (C0 : CX p s m args meth c w rt ml cc Dg cA B scr xs L R d n0 r) {pc : Nat} {ls : Lc} {st : List AV} {σ : Mem} {a : Int} {off : Int} (hd : decode cc pc = .ok (.ifCond .gt off, 3)) (ho : 0 ≤ (pc : Int) + off) (hg : rN σ ≤ rN r.2) (ht : 0 < a → AK p l e R s m args below meth c ml Dg cA B scr ph n0 Q r (br pc off) ls st σ) (he : ¬ 0 < a → AK p l e R s m args below meth c ml Dg cA B scr ph n0 Q r (pc + 3) ls st σ) : AK p l e R s m args below meth c ml Dg cA B scr ph n0 Q r pc ls (.inl a :: st) σ := by
  obtain ⟨hx, hb, hml, hown, hts, hK, hlocks, hrt, hini, hbs, hscr, hstr, hfr, hlo, hcl, hsl⟩ := C0
  refine ⟨hg, fun H locs lsR hn rel => ?_⟩
  obtain ⟨ga, g4⟩ := List.forall_mem_cons.mp rel.top
  have gb := rng0
  exact lv_if_gt hx hb hd (br_of ho) (fun z => (ht (by have q := z; rw [← z32, i32_lt gb ga] at q; omega)).2 H locs lsR hn (rel.stk g4)) (fun z => (he (by have q := z; rw [← z32, i32_lt gb ga] at q; omega)).2 H locs lsR hn (rel.stk g4))
theorem k_icmp_le (C0 : CX p s m args meth c w rt ml cc Dg cA B scr xs L R d n0 r) {pc : Nat} {ls : Lc} {st : List AV} {σ : Mem} {a b : Int} {off : Int} (hd : decode cc pc = .ok (.if_icmp .le off, 3)) (ho : 0 ≤ (pc : Int) + off) (hg : rN σ ≤ rN r.2) (ht : ¬ b < a → AK p l e R s m args below meth c ml Dg cA B scr ph n0 Q r (br pc off) ls st σ) (he : b < a → AK p l e R s m args below meth c ml Dg cA B scr ph n0 Q r (pc + 3) ls st σ) : AK p l e R s m args below meth c ml Dg cA B scr ph n0 Q r pc ls (.inl b :: .inl a :: st) σ := by
  obtain ⟨hx, hb, hml, hown, hts, hK, hlocks, hrt, hini, hbs, hscr, hstr, hfr, hlo, hcl, hsl⟩ := C0
  refine ⟨hg, fun H locs lsR hn rel => ?_⟩
  obtain ⟨gb, g2⟩ := List.forall_mem_cons.mp rel.top
  obtain ⟨ga, g4⟩ := List.forall_mem_cons.mp g2
  exact lv_icmp_le hx hb hd (br_of ho) (fun z => (ht (by have q := z; rw [i32_le ga gb] at q; omega)).2 H locs lsR hn (rel.stk g4)) (fun z => (he (by have q := z; rw [i32_le ga gb] at q; omega)).2 H locs lsR hn (rel.stk g4))
theorem k_if_le (C0 : CX p s m args meth c w rt ml cc Dg cA B scr xs L R d n0 r) {pc : Nat} {ls : Lc} {st : List AV} {σ : Mem} {a : Int} {off : Int} (hd : decode cc pc = .ok (.ifCond .le off, 3)) (ho : 0 ≤ (pc : Int) + off) (hg : rN σ ≤ rN r.2) (ht : ¬ 0 < a → AK p l e R s m args below meth c ml Dg cA B scr ph n0 Q r (br pc off) ls st σ) (he : 0 < a → AK p l e R s m args below meth c ml Dg cA B scr ph n0 Q r (pc + 3) ls st σ) : AK p l e R s m args below meth c ml Dg cA B scr ph n0 Q r pc ls (.inl a :: st) σ := by
  obtain ⟨hx, hb, hml, hown, hts, hK, hlocks, hrt, hini, hbs, hscr, hstr, hfr, hlo, hcl, hsl⟩ := C0
  refine ⟨hg, fun H locs lsR hn rel => ?_⟩
  obtain ⟨ga, g4⟩ := List.forall_mem_cons.mp rel.top
  have gb := rng0
  exact lv_if_le hx hb hd (br_of ho) (fun z => (ht (by have q := z; rw [← z32, i32_le ga gb] at q; omega)).2 H locs lsR hn (rel.stk g4)) (fun z => (he (by have q := z; rw [← z32, i32_le ga gb] at q; omega)).2 H locs lsR hn (rel.stk g4))
theorem k_ifnull_n (C0 : CX p s m args meth c w rt ml cc Dg cA B scr xs L R d n0 r) {pc : Nat} {ls : Lc} {st : List AV} {σ : Mem} {off : Int} (hd : decode cc pc = .ok (.ifnull off, 3)) (ho : 0 ≤ (pc : Int) + off) (hk : AK p l e R s m args below meth c ml Dg cA B scr ph n0 Q r (br pc off) ls st σ) : AK p l e R s m args below meth c ml Dg cA B scr ph n0 Q r pc ls (vn :: st) σ := by
  obtain ⟨hx, hb, hml, hown, hts, hK, hlocks, hrt, hini, hbs, hscr, hstr, hfr, hlo, hcl, hsl⟩ := C0
  refine ⟨hk.1, fun H locs lsR hn rel => ?_⟩
  obtain ⟨g1, g2⟩ := List.forall_mem_cons.mp rel.top
  exact lv_ifnullN hx hb hd (br_of ho) (hk.2 H locs lsR hn (rel.stk g2))
theorem ad_ref (B : BS) (q : Nat × Nat × Nat) : ∃ x, adV B (.inr (.inr (some q))) = .ref x := by
  obtain ⟨t, n, a⟩ := q
  unfold adV
  simp only []
  split
  · exact ⟨_, rfl⟩
  · split
    · exact ⟨_, rfl⟩
    · exact ⟨_, rfl⟩
theorem k_ifnull_r (C0 : CX p s m args meth c w rt ml cc Dg cA B scr xs L R d n0 r) {pc : Nat} {ls : Lc} {st : List AV} {σ : Mem} {off : Int} {q : Nat × Nat × Nat} (hd : decode cc pc = .ok (.ifnull off, 3)) (hk : AK p l e R s m args below meth c ml Dg cA B scr ph n0 Q r (pc + 3) ls st σ) : AK p l e R s m args below meth c ml Dg cA B scr ph n0 Q r pc ls (.inr (.inr (some q)) :: st) σ := by
  obtain ⟨hx, hb, hml, hown, hts, hK, hlocks, hrt, hini, hbs, hscr, hstr, hfr, hlo, hcl, hsl⟩ := C0
  refine ⟨hk.1, fun H locs lsR hn rel => ?_⟩
  obtain ⟨g1, g2⟩ := List.forall_mem_cons.mp rel.top
  obtain ⟨x, ea⟩ := ad_ref B q
  rw [List.map_cons, ea]
  exact lv_ifnull hx hb hd (hk.2 H locs lsR hn (rel.stk g2))
theorem k_ldc (C0 : CX p s m args meth c w rt ml cc Dg cA B scr xs L R d n0 r) {pc : Nat} {ls : Lc} {st : List AV} {σ : Mem} {k : Nat} {v : Int} (hd : decode cc pc = .ok (.ldc k, 2)) (hc : Cond.constant (nmT w) k (Int32.ofInt v) ∈ lwG) (hv : rng32 v) (hk : AK p l e R s m args below meth c ml Dg cA B scr ph n0 Q r (pc + 2) ls (.inl v :: st) σ) : AK p l e R s m args below meth c ml Dg cA B scr ph n0 Q r pc ls st σ := by
  obtain ⟨hx, hb, hml, hown, hts, hK, hlocks, hrt, hini, hbs, hscr, hstr, hfr, hlo, hcl, hsl⟩ := C0
  refine ⟨hk.1, fun H locs lsR hn rel => ?_⟩
  exact lv_ldc hx hb hown (hts _ hc) hd (hk.2 H locs lsR hn (rel.stk (List.forall_mem_cons.mpr ⟨hv, rel.top⟩)))
theorem k_ldc_w (C0 : CX p s m args meth c w rt ml cc Dg cA B scr xs L R d n0 r) {pc : Nat} {ls : Lc} {st : List AV} {σ : Mem} {k : Nat} {v : Int} (hd : decode cc pc = .ok (.ldc_w k, 3)) (hc : Cond.constant (nmT w) k (Int32.ofInt v) ∈ lwG) (hv : rng32 v) (hk : AK p l e R s m args below meth c ml Dg cA B scr ph n0 Q r (pc + 3) ls (.inl v :: st) σ) : AK p l e R s m args below meth c ml Dg cA B scr ph n0 Q r pc ls st σ := by
  obtain ⟨hx, hb, hml, hown, hts, hK, hlocks, hrt, hini, hbs, hscr, hstr, hfr, hlo, hcl, hsl⟩ := C0
  refine ⟨hk.1, fun H locs lsR hn rel => ?_⟩
  exact lv_ldcw hx hb hown (hts _ hc) hd (hk.2 H locs lsR hn (rel.stk (List.forall_mem_cons.mpr ⟨hv, rel.top⟩)))
theorem k_ldc2 (C0 : CX p s m args meth c w rt ml cc Dg cA B scr xs L R d n0 r) {pc : Nat} {ls : Lc} {st : List AV} {σ : Mem} {k : Nat} {v : Int} (hd : decode cc pc = .ok (.ldc2_w k, 3)) (hc : Cond.constantLong (nmT w) k (Int64.ofInt v) ∈ lwG) (hv : rng64 v) (hk : AK p l e R s m args below meth c ml Dg cA B scr ph n0 Q r (pc + 3) ls (vl v :: st) σ) : AK p l e R s m args below meth c ml Dg cA B scr ph n0 Q r pc ls st σ := by
  obtain ⟨hx, hb, hml, hown, hts, hK, hlocks, hrt, hini, hbs, hscr, hstr, hfr, hlo, hcl, hsl⟩ := C0
  refine ⟨hk.1, fun H locs lsR hn rel => ?_⟩
  exact lv_ldc2 hx hb hown (hts _ hc) hd (hk.2 H locs lsR hn (rel.stk (List.forall_mem_cons.mpr ⟨hv, rel.top⟩)))
theorem k_ldcS (C0 : CX p s m args meth c w rt ml cc Dg cA B scr xs L R d n0 r) {pc : Nat} {ls : Lc} {st : List AV} {σ : Mem} (hd : decode cc pc = .ok (.ldc 132, 2)) (hw : w = 2) (hk : AK p l e R s m args below meth c ml Dg cA B scr ph n0 Q r (pc + 2) ls (vr 24 0 0 :: st) σ) : AK p l e R s m args below meth c ml Dg cA B scr ph n0 Q r pc ls st σ := by
  obtain ⟨hx, hb, hml, hown, hts, hK, hlocks, hrt, hini, hbs, hscr, hstr, hfr, hlo, hcl, hsl⟩ := C0
  refine ⟨hk.1, fun H locs lsR hn rel => ?_⟩
  subst hw
  obtain ⟨tx, hstr⟩ := hstr.2.1
  exact va_ldcS hx hb hown hstr hd (hk.2 H locs lsR hn (rel.stk (List.forall_mem_cons.mpr ⟨Or.inr (Or.inl rfl), rel.top⟩)))
end STEP
