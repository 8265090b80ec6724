/-! the reference reads statements -/
/-- a name's number, its last letter first -/
def nmR : List Int → Int
  | [] => 0
  | x :: l => x + 27 * nmR l
def nmB (l : List Int) : Int := nmR l.reverse
def nmG : Int → List Int → Int
  | v, [] => v
  | v, x :: l => nmG (27 * v + x) l
theorem nmG_R : ∀ (l r : List Int), nmG (nmR r) l = nmR (l.reverse ++ r)
  | [], r => rfl
  | x :: l, r => by
    have e : 27 * nmR r + x = nmR (x :: r) := by show 27 * nmR r + x = x + 27 * nmR r; omega
    show nmG (27 * nmR r + x) l = _
    rw [e, nmG_R l (x :: r), List.reverse_cons, List.append_assoc]
    rfl
theorem nmG_B (l : List Int) : nmG 0 l = nmB l := by
  have := nmG_R l []
  rw [List.append_nil] at this
  exact this
theorem nmR_0 : ∀ {l : List Int}, (∀ x ∈ l, 1 ≤ x ∧ x ≤ 26) → 0 ≤ nmR l
  | [], _ => by show (0 : Int) ≤ 0; omega
  | x :: l, h => by
    have h1 := h x List.mem_cons_self
    have h2 := nmR_0 (l := l) (fun y hy => h y (List.mem_cons_of_mem _ hy))
    show 0 ≤ x + 27 * nmR l
    omega
theorem nmR_inj : ∀ {a b : List Int}, (∀ x ∈ a, 1 ≤ x ∧ x ≤ 26) → (∀ x ∈ b, 1 ≤ x ∧ x ≤ 26) → nmR a = nmR b → a = b
  | [], [], _, _, _ => rfl
  | [], y :: b, _, hb, e => by
    have h1 := hb y List.mem_cons_self
    have h2 := nmR_0 (l := b) (fun z hz => hb z (List.mem_cons_of_mem _ hz))
    have e2 : (0 : Int) = y + 27 * nmR b := e
    omega
  | x :: a, [], ha, _, e => by
    have h1 := ha x List.mem_cons_self
    have h2 := nmR_0 (l := a) (fun z hz => ha z (List.mem_cons_of_mem _ hz))
    have e2 : x + 27 * nmR a = 0 := e
    omega
  | x :: a, y :: b, ha, hb, e => by
    have h1 := ha x List.mem_cons_self
    have h2 := hb y List.mem_cons_self
    have e2 : x + 27 * nmR a = y + 27 * nmR b := e
    have e3 : x = y := by omega
    have e4 : nmR a = nmR b := by omega
    rw [e3, nmR_inj (fun z hz => ha z (List.mem_cons_of_mem _ hz)) (fun z hz => hb z (List.mem_cons_of_mem _ hz)) e4]
theorem nmB_inj {a b : List Int} (ha : ∀ x ∈ a, 1 ≤ x ∧ x ≤ 26) (hb : ∀ x ∈ b, 1 ≤ x ∧ x ≤ 26) (h : nmB a = nmB b) : a = b := by
  have := nmR_inj (a := a.reverse) (b := b.reverse) (fun x hx => ha x (List.mem_reverse.mp hx)) (fun x hx => hb x (List.mem_reverse.mp hx)) h
  rw [← List.reverse_reverse a, this, List.reverse_reverse]
theorem woO_j {o : Nat} (h : woO o = true) : o < 114 ∨ 130 ≤ o := by
  unfold woO at h
  simp only [Bool.or_eq_true, Bool.and_eq_true, decide_eq_true_iff] at h
  omega
theorem MWs.fr2 {s s' : Mem} {P : Nat → Nat → Prop} (h : MWs s) (hf : Fr P s s') (hp : ∀ a k, P a k → a < 87 ∨ 114 ≤ a ∧ a < 130 ∨ 155 ≤ a) : MWs s' := fun o ho => (h o ho).fr hf (fun i _ q => by have := hp _ _ q; have := woO_i ho; have := woO_j ho; omega)
section MTAB
variable {tp : List Int}
theorem QA.fr2 {s s' : Mem} {q : Nat} {P : Nat → Nat → Prop} (h : QA s tp q) (hf : Fr P s s') (hp : ∀ a k, P a k → (a = 84 ∧ (k < 2 ∨ 6 < k)) ∨ a < 84 ∨ 114 ≤ a ∧ a < 130 ∨ 155 ≤ a) : QA s' tp q := by
  obtain ⟨⟨h1, h2, h3⟩, h4, h5, ⟨a, h6, h7, h8⟩, h9, h10, h11⟩ := h
  have g : ∀ k, 2 ≤ k → k ≤ 6 → rI s' 84 k = rI s 84 k := fun k a b => hf.i (fun q => by have := hp _ _ q; omega)
  have e2 := g 2 (by omega) (by omega)
  have e3 := g 3 (by omega) (by omega)
  have e4 := g 4 (by omega) (by omega)
  have e5 := g 5 (by omega) (by omega)
  have e6 := g 6 (by omega) (by omega)
  refine ⟨⟨e3.trans h1, h2, h3.fr hf (fun i _ q => by have := hp _ _ q; omega)⟩, h4.fr2 hf (fun a k q => by have := hp _ _ q; omega), e5.trans h5, ⟨a, e2.trans h6, h7, h8⟩, ?_, ?_, e6.trans h11⟩
  · rw [e4]; exact h9
  · rw [e4]; exact h10
/-- with a fault nothing more is done -/
theorem m_asks0 (D n o : Nat) {s : Mem} (h : rI s 84 5 ≠ 0) : f_M_asks (D + 1) n o s = some (0, s) := by rw [e_M_asks, if_neg h]
theorem m_asksSign0 (D : Nat) (v : Int) {s : Mem} (h : rI s 84 5 ≠ 0) : f_M_asksSign (D + 1) v s = some (0, s) := by rw [e_M_asksSign, if_neg h]
theorem m_number0 (D : Nat) (a b : Int) {s : Mem} (h : rI s 84 5 ≠ 0) : f_M_number (D + 1) a b s = some (0, s) := by rw [e_M_number, if_neg h]
theorem m_flS (D : Nat) {s : Mem} (h : rI s 84 5 = 0) {a b : Int} {q : Nat} (ha : a ≠ 0) (hb : b = (q : Int)) : ∃ s1, f_M_fail (D + 1) a b s = some (0, s1) ∧ Fr (fun a k => a = 84 ∧ (k = 5 ∨ k = 6)) s s1 ∧ MFl s1 (a, q) := by
  refine ⟨_, m_fail D h a b, (Fr.rf.w (by omega)).w (by omega), ⟨by rw [rI_other _ _ _ _ (by omega), rI_same], ha⟩, by rw [rI_same, hb]⟩
theorem m_numS (D : Nat) {s : Mem} {q : Nat} (h : QA s tp q) (a b : Int) : (∃ e s1 x, numP tp a b q = .inl e ∧ f_M_number (D + 2) a b s = some (x, s1) ∧ Fr PMn s s1 ∧ MFl s1 e) ∨ ∃ s1, numP tp a b q = .inr (nx tp q, nu tp q) ∧ f_M_number (D + 2) a b s = some (nu tp q, s1) ∧ Fr PMn s s1 ∧ QA s1 tp (nx tp q) ∧ rI s1 84 10 = (q : Int) ∧ a ≤ nu tp q ∧ nu tp q ≤ b := by
  obtain ⟨n1, n2, n3, n4⟩ := m_number D h a b
  unfold numP
  by_cases k2 : kd tp q = 2
  · rw [if_pos k2]
    by_cases c4 : 4 < de tp q - q
    · obtain ⟨s1, x, e1, f1, g1, g2, -⟩ := n3 k2 c4
      rw [if_pos c4]
      exact Or.inl ⟨_, s1, x, rfl, e1, f1, ⟨g1, nz1⟩, g2⟩
    · rw [if_neg c4]
      by_cases c : a ≤ nu tp q ∧ nu tp q ≤ b
      · obtain ⟨s1, e1, f1, g1, g2⟩ := n1 k2 (by omega) c
        rw [if_pos c]
        exact Or.inr ⟨s1, rfl, e1, f1, g1, g2, c⟩
      · obtain ⟨s1, e1, f1, g1, g2⟩ := n2 k2 (by omega) c
        rw [if_neg c]
        exact Or.inl ⟨_, s1, _, rfl, e1, f1, ⟨g1, nz2⟩, g2⟩
  · obtain ⟨s1, x, e1, f1, g1, g2, -⟩ := n4 k2
    rw [if_neg k2]
    exact Or.inl ⟨_, s1, x, rfl, e1, f1, ⟨g1, nz1⟩, g2⟩
theorem m_wrdS (D : Nat) {s : Mem} {q n o : Nat} {i : Int} (h : QA s tp q) (ho : woO o = true) (hn : (WD.getD (woA o) []).length = n) (hi : (woA o : Int) = i) : (∃ e s1, wrdP tp i q = .inl e ∧ f_M_asks (D + 4) n o s = some (0, s1) ∧ Fr PMn s s1 ∧ MFl s1 e) ∨ ∃ q1 s1, wrdP tp i q = .inr q1 ∧ f_M_asks (D + 4) n o s = some (0, s1) ∧ Fr PMn s s1 ∧ QA s1 tp q1 := by
  have ha := m_asks D h ho
  rw [hn, hi] at ha
  unfold wrdP
  by_cases c : wd tp q = i
  · obtain ⟨s1, e1, f1, g1⟩ := ha.1 c
    rw [if_pos c]
    exact Or.inr ⟨_, s1, rfl, e1, f1.mo (fun a k q => by unfold PMn; omega), g1⟩
  · obtain ⟨s1, e1, f1, g1, g2⟩ := ha.2 c
    rw [if_neg c]
    exact Or.inl ⟨_, s1, rfl, e1, f1.mo (fun a k q => by unfold PMn; omega), ⟨g1, nz1⟩, g2⟩
theorem m_sgnS (D : Nat) {s : Mem} {q : Nat} (h : QA s tp q) {v : Int} (hv : isSg v = true) : (∃ e s1, sgnP tp v q = .inl e ∧ f_M_asksSign (D + 3) v s = some (0, s1) ∧ Fr PMn s s1 ∧ MFl s1 e) ∨ ∃ q1 s1, sgnP tp v q = .inr q1 ∧ f_M_asksSign (D + 3) v s = some (0, s1) ∧ Fr PMn s s1 ∧ QA s1 tp q1 := by
  have ha := m_asksSign D h hv
  unfold sgnP
  by_cases c : sg tp q = v
  · obtain ⟨s1, e1, f1, g1⟩ := ha.1 c
    rw [if_pos c]
    exact Or.inr ⟨_, s1, rfl, e1, f1.mo (fun a k q => by unfold PMn; omega), g1⟩
  · obtain ⟨s1, e1, f1, g1, g2⟩ := ha.2 c
    rw [if_neg c]
    exact Or.inl ⟨_, s1, rfl, e1, f1.mo (fun a k q => by unfold PMn; omega), ⟨g1, nz1⟩, g2⟩
theorem m_namS (D : Nat) {s : Mem} {q : Nat} (h : QA s tp q) : (∃ e s1 x, namP tp q = .inl e ∧ f_M_name (D + 4) s = some (x, s1) ∧ Fr PMn s s1 ∧ MFl s1 e) ∨ ∃ q1 s1, namP tp q = .inr q1 ∧ isNm tp q ∧ le tp q - q ≤ 6 ∧ f_M_name (D + 4) s = some (nmv tp q, s1) ∧ Fr PMn s s1 ∧ QA s1 tp q1 ∧ rI s1 84 38 = (q : Int) := by
  obtain ⟨n1, n2, n3⟩ := m_name D h
  unfold namP
  by_cases c : isNm tp q
  · rw [if_pos c]
    by_cases c6 : 6 < le tp q - q
    · obtain ⟨s1, x, e1, f1, g1, g2⟩ := n2 c c6
      rw [if_pos c6]
      exact Or.inl ⟨_, s1, x, rfl, e1, f1, ⟨g1, nz1⟩, g2⟩
    · obtain ⟨s1, e1, f1, g1, g2⟩ := n1 c (by omega)
      rw [if_neg c6]
      exact Or.inr ⟨_, s1, rfl, c, by omega, e1, f1, g1, g2⟩
  · obtain ⟨s1, x, e1, f1, g1, g2⟩ := n3 c
    rw [if_neg c]
    exact Or.inl ⟨_, s1, x, rfl, e1, f1, ⟨g1, nz1⟩, g2⟩
theorem nmF_G : ∀ (n i : Nat) (v : Int), i + n ≤ tp.length → nmF tp n v i = nmG v ((slc tp i (i + n)).map (fun c => c - 96))
  | 0, i, v, h => by
    rw [Nat.add_zero, slc_e]
    rfl
  | n + 1, i, v, h => by
    rw [slc_c (show i < i + (n + 1) by omega) h, List.map_cons]
    have e := nmF_G n (i + 1) (27 * v + ch tp i - 96) (by omega)
    rw [show i + 1 + n = i + (n + 1) by omega] at e
    show nmF tp n (27 * v + ch tp i - 96) (i + 1) = nmG (27 * v + (tg tp i - 96)) _
    rw [e, ch_i (by omega), show 27 * v + tg tp i - 96 = 27 * v + (tg tp i - 96) by omega]
theorem nmv_B {q : Nat} (h : q ≤ tp.length) : nmv tp q = nmB (nmX tp q) := by
  have hr := ru_p (p := isLt) (tp := tp) (i := q) h
  have h1 : q ≤ le tp q ∧ le tp q ≤ tp.length := ⟨hr.1, hr.2.1⟩
  unfold nmv nmX
  rw [nmF_G (le tp q - q) q 0 (by omega), show q + (le tp q - q) = le tp q by omega, nmG_B]
/-- the reference's draft: its codes end by n at the latest -/
def MCd (s : Mem) (n k : Nat) (cs : Option (List Int)) : Prop := match cs with
  | none => rI s 119 k = -1
  | some cs => ∃ a : Nat, rI s 119 k = (a : Int) ∧ rI s 120 k = ((a + cs.length : Nat) : Int) ∧ a + cs.length ≤ n ∧ ∀ i, i < cs.length → rI s 121 (a + i) = cs.getD i 0
def MD (s : Mem) (d : Dr) (q : Nat) : Prop := (rI s 114 0 = (dN d : Int) ∧ rI s 114 1 = ((dG d).length : Int) ∧ rI s 114 2 = dT d) ∧ (∀ i, i < (dG d).length → rI s 115 i = nmB (gg d i).1 ∧ rI s 117 i = (gg d i).2.1 ∧ rI s 116 (2 * i) = (gg d i).2.2.1 ∧ rI s 116 (2 * i + 1) = (gg d i).2.2.2) ∧ (∀ j : Nat, j < 9 → rI s 118 j = if (j : Int) ∈ dH d then 1 else 0) ∧ ∃ n : Nat, rI s 84 47 = (n : Int) ∧ n ≤ q ∧ MCd s n 0 (dC d 0) ∧ MCd s n 1 (dC d 1) ∧ MCd s n 2 (dC d 2)
theorem MCd.fr {s s' : Mem} {n n' k : Nat} {cs : Option (List Int)} {P : Nat → Nat → Prop} (h : MCd s n k cs) (hf : Fr P s s') (hn : n ≤ n') (hp : ∀ a i, P a i → (a ≠ 119 ∨ i ≠ k) ∧ (a ≠ 120 ∨ i ≠ k) ∧ (a ≠ 121 ∨ n ≤ i)) : MCd s' n' k cs := by
  match cs, h with
  | none, h => exact (hf.i (fun q => by have := hp _ _ q; omega)).trans h
  | some cs, ⟨a, h1, h2, h3, h4⟩ => exact ⟨a, (hf.i (fun q => by have := hp _ _ q; omega)).trans h1, (hf.i (fun q => by have := hp _ _ q; omega)).trans h2, by omega, fun i hi => (hf.i (fun q => by have := hp _ _ q; omega)).trans (h4 i hi)⟩
theorem MD.fr {s s' : Mem} {d : Dr} {q q' : Nat} {P : Nat → Nat → Prop} (h : MD s d q) (hf : Fr P s s') (hq : q ≤ q') (hp : ∀ a k, P a k → a < 114 ∧ (a ≠ 84 ∨ k ≠ 47) ∨ 121 < a) : MD s' d q' := by
  obtain ⟨⟨h1, h2, h3⟩, h4, h5, n, h6, h7, h8, h9, h10⟩ := h
  have g : ∀ a k, 114 ≤ a → a ≤ 121 → rI s' a k = rI s a k := fun a k a1 a2 => hf.i (fun q => by have := hp _ _ q; omega)
  refine ⟨⟨(g _ _ (by omega) (by omega)).trans h1, (g _ _ (by omega) (by omega)).trans h2, (g _ _ (by omega) (by omega)).trans h3⟩, fun i hi => ?_, fun j hj => (g _ _ (by omega) (by omega)).trans (h5 j hj), n, (hf.i (fun q => by have := hp _ _ q; omega)).trans h6, by omega, h8.fr hf (Nat.le_refl _) (fun a i q => by have := hp _ _ q; omega), h9.fr hf (Nat.le_refl _) (fun a i q => by have := hp _ _ q; omega), h10.fr hf (Nat.le_refl _) (fun a i q => by have := hp _ _ q; omega)⟩
  obtain ⟨a1, a2, a3, a4⟩ := h4 i hi
  exact ⟨(g _ _ (by omega) (by omega)).trans a1, (g _ _ (by omega) (by omega)).trans a2, (g _ _ (by omega) (by omega)).trans a3, (g _ _ (by omega) (by omega)).trans a4⟩
/-- a statement's frame -/
abbrev PMd : Nat → Nat → Prop := fun a i => (a = 84 ∧ (i = 2 ∨ i = 4 ∨ i = 5 ∨ i = 6 ∨ i = 10 ∨ i = 38 ∨ i = 47 ∨ i = 50 ∨ i = 99 ∨ i = 101 ∨ i = 102 ∨ i = 103)) ∨ a = 155 ∨ a = 156 ∨ a = 114 ∧ i < 3 ∨ a = 115 ∧ i < 7 ∨ a = 116 ∧ i < 14 ∨ a = 117 ∨ a = 118 ∨ a = 119 ∧ i < 3 ∨ a = 120 ∧ i < 3 ∨ a = 121 ∧ i < 1600
theorem Fr.md {s s' : Mem} (h : Fr PMn s s') : Fr PMd s s' := h.mo (fun a k q => by unfold PMd; unfold PMn at q; omega)
def MOS (tp : List Int) (X : Rs) (res : PR (Nat × Dr)) (s : Mem) : Prop := match res with
  | .inl e => ∃ s1, X = some (0, s1) ∧ Fr PMd s s1 ∧ MFl s1 e
  | .inr x => ∃ s1, X = some (0, s1) ∧ Fr PMd s s1 ∧ QA s1 tp x.1 ∧ MD s1 x.2 x.1
/-- a guest -/
theorem m_gt111d (D : Nat) {s : Mem} {n : Nat} (b c : Int) (h5 : rI s 84 5 ≠ 0) (h1 : rI s 114 1 = (n : Int)) (hn : n ≤ 7) : ∀ m e : Nat, e + m = n → L_M_guestTold_111 (D + 1) b c (e : Int) s = some (0, s)
  | 0, e, he => by
    rw [e_M_guestTold_111, if_neg (by omega), m_asks0 D _ _ h5, Option.bind_some]
    simp only []
    rw [m_number0 D _ _ h5, Option.bind_some]
    simp only []
    rw [m_asks0 D _ _ h5, Option.bind_some]
    simp only []
    rw [m_number0 D _ _ h5, Option.bind_some]
    exact if_neg h5
  | m + 1, e, he => by
    rw [e_M_guestTold_111, if_pos (by omega), if_neg h5, w32_s (by omega)]
    exact m_gt111d D b c h5 h1 hn m (e + 1) (by omega)
theorem m_gt40d (D : Nat) {s : Mem} {n : Nat} (b : Int) (h5 : rI s 84 5 ≠ 0) (h1 : rI s 114 1 = (n : Int)) (hn : n ≤ 7) : ∀ m e : Nat, e + m = n → L_M_guestTold_40 (D + 1) b (e : Int) s = some (0, s)
  | 0, e, he => by
    rw [e_M_guestTold_40, if_neg (by omega), m_asks0 D _ _ h5, Option.bind_some]
    simp only []
    rw [m_number0 D _ _ h5, Option.bind_some]
    exact m_gt111d D b 0 h5 h1 hn n 0 (by omega)
  | m + 1, e, he => by
    rw [e_M_guestTold_40, if_pos (by omega), if_neg h5, w32_s (by omega)]
    exact m_gt40d D b h5 h1 hn m (e + 1) (by omega)
theorem m_gt40 (D : Nat) {d : Dr} {s : Mem} {q1 q : Nat} {nm : List Int} (hd : DOk d) (hM : MD s d q) (h5 : rI s 84 5 = 0) (h38 : rI s 84 38 = (q1 : Int)) (hnm : ∀ x ∈ nm, 1 ≤ x ∧ x ≤ 26) : ∀ m e : Nat, e + m = (dG d).length → (∀ i, i < e → (gg d i).1 ≠ nm) → ((∃ i, i < (dG d).length ∧ (gg d i).1 = nm) → ∃ s1, L_M_guestTold_40 (D + 2) (nmB nm) (e : Int) s = some (0, s1) ∧ Fr PMn s s1 ∧ MFl s1 (3, q1)) ∧ ((∀ i, i < (dG d).length → (gg d i).1 ≠ nm) → L_M_guestTold_40 (D + 2) (nmB nm) (e : Int) s = L_M_guestTold_40 (D + 2) (nmB nm) ((dG d).length : Int) s)
  | 0, e, he, hne => by
    refine ⟨fun ⟨i, h1, h2⟩ => absurd h2 (hne i (by omega)), fun _ => ?_⟩
    rw [show e = (dG d).length by omega]
  | m + 1, e, he, hne => by
    have hg7 := hd.2.1.1
    have hge := hd.2.1.2.1 e (by omega)
    have hx := (hM.2.1 e (by omega)).1
    have h1 := hM.1.2.1
    have eq : L_M_guestTold_40 (D + 2) (nmB nm) (e : Int) s = if lCmp (nmB (gg d e).1) (nmB nm) = 0 then ((f_M_fail (D + 2) 3 (q1 : Int) s).bind fun p1 => L_M_guestTold_40 (D + 2) (nmB nm) ((e + 1 : Nat) : Int) p1.2) else L_M_guestTold_40 (D + 2) (nmB nm) ((e + 1 : Nat) : Int) s := by
      rw [e_M_guestTold_40, h1, if_pos (by omega), h5, if_pos rfl, inB_n (by omega), Int.toNat_natCast, hx, h38, w32_s (by omega)]
    by_cases c : (gg d e).1 = nm
    · refine ⟨fun _ => ?_, fun h2 => absurd c (h2 e (by omega))⟩
      obtain ⟨s1, e1, f1, g1⟩ := m_flS (D + 1) h5 (a := 3) (b := (q1 : Int)) (q := q1) (by decide) rfl
      have h1' : rI s1 114 1 = ((dG d).length : Int) := (f1.i (by omega)).trans h1
      rw [eq, if_pos (by rw [c, lC_eq]), e1, Option.bind_some]
      exact ⟨s1, m_gt40d (D + 1) _ (by rw [g1.1.1]; exact g1.1.2) h1' hg7 m (e + 1) (by omega), f1.mo (fun a k q => by unfold PMn; omega), g1⟩
    · have hcn : ¬ lCmp (nmB (gg d e).1) (nmB nm) = 0 := by
        rw [lC_eq]
        exact fun q => c (nmB_inj hge.1.2.2 hnm q)
      have ih := m_gt40 D hd hM h5 h38 hnm m (e + 1) (by omega) (fun i hi => by
        rcases Nat.lt_or_ge i e with e1 | e1
        · exact hne i e1
        · rw [show i = e by omega]; exact c)
      rw [eq, if_neg hcn]
      exact ih
theorem m_gt111 (D : Nat) {d : Dr} {s : Mem} {q1 q : Nat} {b v : Int} (hd : DOk d) (hM : MD s d q) (h5 : rI s 84 5 = 0) (h10 : rI s 84 10 = (q1 : Int)) : ∀ m e : Nat, e + m = (dG d).length → (∀ i, i < e → (gg d i).2.1 ≠ v) → ((∃ i, i < (dG d).length ∧ (gg d i).2.1 = v) → ∃ s1, L_M_guestTold_111 (D + 2) b v (e : Int) s = some (0, s1) ∧ Fr PMn s s1 ∧ MFl s1 (2, q1)) ∧ ((∀ i, i < (dG d).length → (gg d i).2.1 ≠ v) → L_M_guestTold_111 (D + 2) b v (e : Int) s = L_M_guestTold_111 (D + 2) b v ((dG d).length : Int) s)
  | 0, e, he, hne => by
    refine ⟨fun ⟨i, h1, h2⟩ => absurd h2 (hne i (by omega)), fun _ => ?_⟩
    rw [show e = (dG d).length by omega]
  | m + 1, e, he, hne => by
    have hg7 := hd.2.1.1
    have hx := (hM.2.1 e (by omega)).2.1
    have h1 := hM.1.2.1
    have eq : L_M_guestTold_111 (D + 2) b v (e : Int) s = if (gg d e).2.1 = v then ((f_M_fail (D + 2) 2 (q1 : Int) s).bind fun p1 => L_M_guestTold_111 (D + 2) b v ((e + 1 : Nat) : Int) p1.2) else L_M_guestTold_111 (D + 2) b v ((e + 1 : Nat) : Int) s := by
      rw [e_M_guestTold_111, h1, if_pos (by omega), h5, if_pos rfl, inB_n (by omega), Int.toNat_natCast, hx, h10, w32_s (by omega)]
    by_cases c : (gg d e).2.1 = v
    · refine ⟨fun _ => ?_, fun h2 => absurd c (h2 e (by omega))⟩
      obtain ⟨s1, e1, f1, g1⟩ := m_flS (D + 1) h5 (a := 2) (b := (q1 : Int)) (q := q1) (by decide) rfl
      have h1' : rI s1 114 1 = ((dG d).length : Int) := (f1.i (by omega)).trans h1
      rw [eq, if_pos c, e1, Option.bind_some]
      exact ⟨s1, m_gt111d (D + 1) _ _ (by rw [g1.1.1]; exact g1.1.2) h1' hg7 m (e + 1) (by omega), f1.mo (fun a k q => by unfold PMn; omega), g1⟩
    · have ih := m_gt111 D (b := b) hd hM h5 h10 m (e + 1) (by omega) (fun i hi => by
        rcases Nat.lt_or_ge i e with e1 | e1
        · exact hne i e1
        · rw [show i = e by omega]; exact c)
      rw [eq, if_neg c]
      exact ih
theorem any_ste {d : Dr} {v : Int} : (dG d).any (fun g => g.2.1 == v) = true ↔ ∃ i, i < (dG d).length ∧ (gg d i).2.1 = v := by
  rw [List.any_eq_true]
  constructor
  · rintro ⟨g, hg, e⟩
    obtain ⟨i, hi, e2⟩ := List.mem_iff_getElem.mp hg
    refine ⟨i, hi, ?_⟩
    rw [beq_iff_eq] at e
    unfold gg
    rw [List.getD_eq_getElem?_getD, List.getElem?_eq_getElem hi, Option.getD_some, e2, e]
  · rintro ⟨i, hi, e⟩
    exact ⟨gg d i, gg_mem hi, by rw [beq_iff_eq]; exact e⟩
end MTAB
