/-! the reference's words, signs, numbers -/
theorem one_nz : ¬ ((1 : Int) = 0) := by decide
def woA (o : Nat) : Nat := if o < 114 then o - 87 else if o < 136 then o - 103 else if o = 136 then 23 else if o = 137 then 22 else if o = 138 then 21 else if o = 139 then 24 else if o = 140 then 25 else if o = 141 then 26 else if o = 142 then 3 else if o = 143 then 4 else o - 134
def woO (o : Nat) : Bool := (decide (87 ≤ o) && decide (o < 114)) || (decide (130 ≤ o) && decide (o < 155))
def MWs (s : Mem) : Prop := ∀ o, woO o = true → Ag s o (WD.getD (woA o) [])
theorem woA_l : ∀ o : Fin 155, woO o.val = true → woA o.val < 33 ∧ (WD.getD (woA o.val) []).length ≤ 6 := by decide
theorem woO_i {o : Nat} (h : woO o = true) : 87 ≤ o ∧ o < 155 ∧ woA o < 33 ∧ (WD.getD (woA o) []).length ≤ 6 := by
  have h2 : 87 ≤ o ∧ o < 155 := by
    unfold woO at h
    simp only [Bool.or_eq_true, Bool.and_eq_true, decide_eq_true_iff] at h
    omega
  exact ⟨h2.1, h2.2, woA_l ⟨o, h2.2⟩ h⟩
theorem fwI_ge {ls : List Int} : ∀ (ws : List (List Int)) (k : Int), 0 ≤ k → fwI ls ws k = -1 ∨ k ≤ fwI ls ws k
  | [], _, _ => Or.inl rfl
  | w :: ws, k, h => by
    unfold fwI
    split
    · exact Or.inr (Int.le_refl _)
    · rcases fwI_ge ws (k + 1) (by omega) with e | e
      · exact Or.inl e
      · exact Or.inr (by omega)
theorem fwI_i {ls : List Int} : ∀ (ws : List (List Int)) (k : Int) (i : Nat), 0 ≤ k → ws.Nodup → i < ws.length → (fwI ls ws k = k + (i : Int) ↔ ls = ws.getD i [])
  | [], _, _, _, _, h => absurd h (Nat.not_lt_zero _)
  | w :: ws, k, 0, hk, hn, h => by
    unfold fwI
    show _ ↔ ls = w
    by_cases c : ls = w
    · rw [if_pos c]; exact ⟨fun _ => c, fun _ => by omega⟩
    · rw [if_neg c]
      refine ⟨fun q => ?_, fun q => absurd q c⟩
      rcases fwI_ge (ls := ls) ws (k + 1) (by omega) with e | e <;> omega
  | w :: ws, k, i + 1, hk, hn, h => by
    obtain ⟨hn1, hn2⟩ := List.nodup_cons.mp hn
    have hi : i < ws.length := by simpa using h
    have ih := fwI_i (ls := ls) ws (k + 1) i (by omega) hn2 hi
    unfold fwI
    show _ ↔ ls = ws.getD i []
    have hm : ws.getD i [] ∈ ws := by
      rw [List.getD_eq_getElem?_getD, List.getElem?_eq_getElem hi]
      exact List.getElem_mem hi
    by_cases c : ls = w
    · rw [if_pos c]
      refine ⟨fun q => by omega, fun q => ?_⟩
      rw [← q, c] at hm
      exact absurd hm hn1
    · rw [if_neg c, ← ih]
      constructor <;> intro q <;> omega
theorem WD_nd : WD.Nodup := by decide +kernel
theorem WD_ln : WD.length = 33 := rfl
theorem wd_ix {tp : List Int} {q i : Nat} (hi : i < 33) : wd tp q = (i : Int) ↔ kd tp q = 1 ∧ slc tp q (le tp q) = WD.getD i [] := by
  have := fwI_i (ls := slc tp q (le tp q)) WD 0 i (by omega) WD_nd hi
  rw [Int.zero_add] at this
  unfold wd
  by_cases c : kd tp q = 1
  · rw [if_pos c, this]
    exact ⟨fun q => ⟨c, q⟩, fun q => q.2⟩
  · rw [if_neg c]
    exact ⟨fun q => by omega, fun q => absurd q.1 c⟩
section MTOK
variable {tp : List Int}
/-- the reference stands ahead of the token at q -/
def QA (s : Mem) (tp : List Int) (q : Nat) : Prop := (rI s 84 3 = (tp.length : Int) ∧ tp.length ≤ 1600 ∧ Ag s 85 tp) ∧ MWs s ∧ rI s 84 5 = 0 ∧ (∃ a : Nat, rI s 84 2 = (a : Int) ∧ a ≤ tp.length ∧ sk tp a = q) ∧ ((rI s 84 4 = (q : Int) ↔ gl tp q = true) ∧ rI s 84 4 ≤ (q : Int) ∧ rI s 84 6 = -1)
def QE (s : Mem) (tp : List Int) (q : Nat) : Prop := QA s tp q ∧ rI s 84 2 = (q : Int)
abbrev PM2 : Nat → Nat → Prop := fun a k => a = 84 ∧ k = 2
abbrev PM4 : Nat → Nat → Prop := fun a k => a = 84 ∧ (k = 2 ∨ k = 4)
theorem MWs.fr {s s' : Mem} {P : Nat → Nat → Prop} (h : MWs s) (hf : Fr P s s') (hp : ∀ a k, P a k → a < 87 ∨ 155 ≤ a) : MWs s' := fun o ho => (h o ho).fr hf (fun i _ q => by have := hp _ _ q; have := woO_i ho; omega)
theorem QA.fr {s s' : Mem} {q : Nat} {P : Nat → Nat → Prop} (h : QA s tp q) (hf : Fr P s s') (hp : ∀ a k, P a k → (a = 84 ∧ (k < 2 ∨ 6 < k)) ∨ a < 84 ∨ 155 ≤ a) : QA s' tp q := by
  obtain ⟨⟨h1, h2, h3⟩, h4, h5, ⟨a, h6, h7, h8⟩, h9, h10, h11⟩ := h
  have g : ∀ k, 2 ≤ k → k ≤ 6 → rI s' 84 k = rI s 84 k := fun k a b => hf.i (fun q => by have := hp _ _ q; omega)
  have e2 := g 2 (by omega) (by omega)
  have e3 := g 3 (by omega) (by omega)
  have e4 := g 4 (by omega) (by omega)
  have e5 := g 5 (by omega) (by omega)
  refine ⟨⟨e3.trans h1, h2, h3.fr hf (fun i _ q => by have := hp _ _ q; omega)⟩, h4.fr hf (fun a k q => by have := hp _ _ q; omega), e5.trans h5, ⟨a, e2.trans h6, h7, h8⟩, ?_, ?_, (g 6 (by omega) (by omega)).trans h11⟩
  · rw [e4]; exact h9
  · rw [e4]; exact h10
theorem QE.fr {s s' : Mem} {q : Nat} {P : Nat → Nat → Prop} (h : QE s tp q) (hf : Fr P s s') (hp : ∀ a k, P a k → (a = 84 ∧ (k < 2 ∨ 6 < k)) ∨ a < 84 ∨ 155 ≤ a) : QE s' tp q := ⟨h.1.fr hf hp, (hf.i (fun q => by have := hp _ _ q; omega)).trans h.2⟩
theorem QA.st {s : Mem} {q : Nat} (h : QA s tp q) : St tp q := by
  obtain ⟨a, _, h2, h3⟩ := h.2.2.2.1
  rw [← h3]
  exact St.sk h2
theorem QA.lq {s : Mem} {q : Nat} (h : QA s tp q) : q ≤ tp.length := h.st.1
/-- wherever the place goes on to, its token stays -/
theorem QA.pl {s s' : Mem} {q q2 a : Nat} (h : QA s tp q) (hf : Fr PM4 s s') (h2 : rI s' 84 2 = (a : Int)) (ha : a ≤ tp.length) (hk : sk tp a = q2) (hg : rI s' 84 4 = (q2 : Int) ↔ gl tp q2 = true) (hl : rI s' 84 4 ≤ (q2 : Int)) : QA s' tp q2 := by
  obtain ⟨⟨h1, h2', h3⟩, h4, h5, -, -, -, h6⟩ := h
  exact ⟨⟨(hf.i (by omega)).trans h1, h2', h3.fr hf (fun i _ q => by omega)⟩, h4.fr hf (fun a k q => by omega), (hf.i (by omega)).trans h5, ⟨a, h2, ha, hk⟩, hg, hl, (hf.i (by omega)).trans h6⟩
theorem m_look0 (D : Nat) {q : Nat} : ∀ (f a : Nat) (s : Mem), a + f = tp.length → QA s tp q → rI s 84 2 = (a : Int) → sk tp a = q → ∃ s1, L_M_look_0 D s = some (ch tp q, s1) ∧ Fr PM2 s s1 ∧ QE s1 tp q
  | 0, a, s, hf, h, h2, hk => by
    have hall := h
    obtain ⟨⟨h1, hl, h3⟩, -⟩ := h
    rw [e_M_look_0, h2, h1, if_neg (by omega), e_M_look_52, h2, h1, if_neg (by omega)]
    have e : q = a := by rw [← hk]; exact ru_e (by omega)
    refine ⟨s, ?_, Fr.rf, hall, by rw [h2, e]⟩
    rw [e]
    unfold ch
    rw [if_neg (by omega)]
  | f + 1, a, s, hf, h, h2, hk => by
    have hall := h
    obtain ⟨⟨h1, hl, h3⟩, -⟩ := h
    have hb : rI s 85 a = ch tp a := by rw [ch_i (by omega)]; exact h3 a (by omega)
    have hs : sk tp a = if isBk (ch tp a) then sk tp (a + 1) else a := ru_s (by omega)
    rw [e_M_look_0, h2, h1, if_pos (by omega), inB_n (by omega), Int.toNat_natCast, hb, inB_n (by omega), w32_s (by omega)]
    have go : isBk (ch tp a) = true → ∃ s1, L_M_look_0 D (wI s 84 2 ((a + 1 : Nat) : Int)) = some (ch tp q, s1) ∧ Fr PM2 s s1 ∧ QE s1 tp q := fun c => by
      rw [if_pos c] at hs
      have f1 : Fr PM2 s (wI s 84 2 ((a + 1 : Nat) : Int)) := Fr.rf.w ⟨rfl, rfl⟩
      have e4 : rI (wI s 84 2 ((a + 1 : Nat) : Int)) 84 4 = rI s 84 4 := rI_other _ _ _ _ (by omega)
      obtain ⟨s1, e1, f2, g⟩ := m_look0 D f (a + 1) (wI s 84 2 ((a + 1 : Nat) : Int)) (by omega) (hall.pl (f1.mo (fun a k q => by omega)) (rI_same _ _ _ _) (by omega) (hs.symm.trans hk) (by rw [e4]; exact hall.2.2.2.2.1) (by rw [e4]; exact hall.2.2.2.2.2.1)) (rI_same _ _ _ _) (hs.symm.trans hk)
      exact ⟨s1, e1, f1.tr f2, g⟩
    unfold isBk at go hs
    by_cases c1 : ch tp a = 10
    · rw [if_pos c1]; exact go (by rw [decide_eq_true c1]; rfl)
    · rw [if_neg c1]
      by_cases c2 : ch tp a = 32
      · rw [if_pos c2]; exact go (by rw [decide_eq_true c2, Bool.or_true])
      · rw [decide_eq_false c1, decide_eq_false c2] at hs
        have e : q = a := hk.symm.trans hs
        rw [if_neg c2, e_M_look_52, h2, h1, if_pos (by omega), inB_n (by omega), Int.toNat_natCast, hb, e]
        exact ⟨s, rfl, Fr.rf, by rw [← e]; exact hall, h2⟩
theorem m_look (D : Nat) {q : Nat} {s : Mem} (h : QA s tp q) : ∃ s1, f_M_look (D + 1) s = some (ch tp q, s1) ∧ Fr PM2 s s1 ∧ QE s1 tp q := by
  obtain ⟨a, h2, ha, hk⟩ := h.2.2.2.1
  rw [e_M_look]
  exact m_look0 D (tp.length - a) a s (by omega) h h2 hk
theorem m_lookE (D : Nat) {q : Nat} {s : Mem} (h : QE s tp q) : f_M_look (D + 1) s = some (ch tp q, s) := by
  have hq := h.1.lq
  obtain ⟨⟨h1, hl, h3⟩, -⟩ := h.1
  rw [e_M_look, e_M_look_0, h.2, h1]
  by_cases c : q < tp.length
  · have hb : rI s 85 q = ch tp q := by rw [ch_i c]; exact h3 q c
    have hs := h.1.st.2 c
    unfold isBk at hs
    rw [Bool.or_eq_false_iff, decide_eq_false_iff_not, decide_eq_false_iff_not] at hs
    rw [if_pos (by omega), inB_n (by omega), Int.toNat_natCast, hb, if_neg hs.1, inB_n (by omega), if_neg hs.2, e_M_look_52, h.2, h1, if_pos (by omega), inB_n (by omega), Int.toNat_natCast, hb]
  · rw [if_neg (by omega), e_M_look_52, h.2, h1, if_neg (by omega)]
    unfold ch
    rw [if_neg c]
theorem m_isL (D : Nat) (c : Int) (s : Mem) : f_M_isLetter (D + 1) c s = some (if isLt c then 1 else 0, s) := by
  rw [e_M_isLetter]
  unfold isLt
  by_cases h : c < 97
  · rw [if_pos h, decide_eq_false (by omega)]; rfl
  · rw [if_neg h, decide_eq_true (by omega)]
    by_cases h2 : 122 < c
    · rw [if_pos h2, decide_eq_false (by omega)]; rfl
    · rw [if_neg h2, decide_eq_true (by omega)]; rfl
theorem m_isD (D : Nat) (c : Int) (s : Mem) : f_M_isDigit (D + 1) c s = some (if isDg c then 1 else 0, s) := by
  rw [e_M_isDigit]
  unfold isDg
  by_cases h : c < 48
  · rw [if_pos h, decide_eq_false (by omega)]; rfl
  · rw [if_neg h, decide_eq_true (by omega)]
    by_cases h2 : 57 < c
    · rw [if_pos h2, decide_eq_false (by omega)]; rfl
    · rw [if_neg h2, decide_eq_true (by omega)]; rfl
theorem m_here35 (D n o : Nat) {s : Mem} {q : Nat} (h : QA s tp q) : ∀ f c : Nat, c + f = tp.length → L_M_isHere_35 (D + 1) n o (c : Int) s = L_M_isHere_61 (D + 1) n o (le tp c : Int) s
  | 0, c, hf => by
    obtain ⟨⟨h1, hl, h3⟩, -⟩ := h
    have e : le tp c = c := ru_e (by omega)
    rw [e_M_isHere_35, h1, if_neg (by omega), e]
  | f + 1, c, hf => by
    have hh := h
    obtain ⟨⟨h1, hl, h3⟩, -⟩ := h
    have e : le tp c = if isLt (ch tp c) then le tp (c + 1) else c := ru_s (by omega)
    have hb : rI s 85 c = ch tp c := by rw [ch_i (by omega)]; exact h3 c (by omega)
    rw [e_M_isHere_35, h1, if_pos (by omega), inB_n (by omega), Int.toNat_natCast, hb, m_isL, Option.bind_some, e]
    simp only []
    by_cases cl : isLt (ch tp c) = true
    · rw [if_pos cl, if_neg (by decide), if_pos cl, w32_s (by omega)]
      exact m_here35 D n o hh f (c + 1) (by omega)
    · rw [if_neg cl, if_pos rfl, if_neg cl]
theorem m_here76 (D : Nat) {o : Nat} {s : Mem} {q : Nat} {w : List Int} (h : QE s tp q) (hw : Ag s o w) (hn : q + w.length ≤ tp.length) : ∀ f c : Nat, c + f = w.length → L_M_isHere_76 D w.length o (c : Int) s = some (if slc tp (q + c) (q + w.length) = w.drop c then 1 else 0, s)
  | 0, c, hf => by
    rw [e_M_isHere_76, if_neg (by omega), show c = w.length by omega, slc_e, List.drop_eq_nil_of_le (Nat.le_refl _), if_pos rfl]
  | f + 1, c, hf => by
    have hh := h
    obtain ⟨⟨⟨h1, hl, h3⟩, -⟩, h2⟩ := h
    rw [e_M_isHere_76, if_pos (by omega), h2, w32_i (z := (q : Int) + (c : Int)) (by omega) (by omega), show (q : Int) + (c : Int) = ((q + c : Nat) : Int) by omega, inB_n (by omega), inB_n (by omega), Int.toNat_natCast, Int.toNat_natCast, h3 (q + c) (by omega), hw c (by omega), w32_s (by omega)]
    have e1 := slc_c (tp := tp) (a := q + c) (b := q + w.length) (by omega) hn
    have e2 : w.drop c = w.getD c 0 :: w.drop (c + 1) := by
      rw [List.drop_eq_getElem_cons (by omega), List.getD_eq_getElem?_getD, List.getElem?_eq_getElem (by omega)]; rfl
    have e3 : (slc tp (q + c) (q + w.length) = w.drop c) ↔ (tp.getD (q + c) 0 = w.getD c 0 ∧ slc tp (q + (c + 1)) (q + w.length) = w.drop (c + 1)) := by
      rw [e1, e2, List.cons_eq_cons]
      exact Iff.rfl
    by_cases c1 : tp.getD (q + c) 0 = w.getD c 0
    · rw [if_pos c1, m_here76 D hh hw hn f (c + 1) (by omega)]
      by_cases c2 : slc tp (q + (c + 1)) (q + w.length) = w.drop (c + 1)
      · rw [if_pos c2, if_pos (e3.mpr ⟨c1, c2⟩)]
      · rw [if_neg c2, if_neg (fun q => c2 (e3.mp q).2)]
    · rw [if_neg c1, if_neg (fun q => c1 (e3.mp q).1)]
theorem slc_l {a b : Nat} (h : a ≤ b) (hb : b ≤ tp.length) : (slc tp a b).length = b - a := by
  unfold slc
  rw [List.length_take, List.length_drop]; omega
theorem m_isH (D : Nat) {o : Nat} {s : Mem} {q : Nat} (h : QE s tp q) (ho : woO o = true) : f_M_isHere (D + 2) (WD.getD (woA o) []).length o s = some (if wd tp q = (woA o : Int) then 1 else 0, s) := by
  have hq := h.1.lq
  obtain ⟨o1, o2, o3, o4⟩ := woO_i ho
  have hx := wd_ix (tp := tp) (q := q) o3
  have hall := h
  obtain ⟨⟨⟨h1, hl, h3⟩, hw, h5, -, h9, -⟩, h2⟩ := h
  rw [e_M_isHere, h5, if_pos rfl, m_lookE D hall, Option.bind_some]
  simp only []
  rw [m_isL, Option.bind_some]
  simp only []
  by_cases cl : isLt (ch tp q) = true
  · rw [if_pos cl, if_neg (by decide), h2]
    have hqi : q < tp.length := by
      rcases Nat.lt_or_ge q tp.length with c | c
      · exact c
      · exfalso
        unfold ch at cl
        rw [if_neg (by omega)] at cl
        exact absurd cl (by decide)
    by_cases cg : gl tp q = true
    · rw [if_pos (h9.mpr cg).symm, if_neg]
      intro e
      have := (kd_1 (hx.mp e).1).2.2
      rw [cg] at this; cases this
    · rw [if_neg (fun e => cg (h9.mp e.symm)), m_here35 D _ o hall.1 (tp.length - q) q (by omega), e_M_isHere_61, h2]
      have k1 : kd tp q = 1 := by
        unfold kd
        rw [if_neg (by omega), if_neg (fun e => by rw [cl] at e; cases e.1), if_neg cg, if_pos cl]
      have hr := ru_p (p := isLt) hq
      have hle : q ≤ le tp q ∧ le tp q ≤ tp.length := ⟨hr.1, hr.2.1⟩
      rw [w32_i (by omega) (by omega)]
      by_cases cn : (le tp q : Int) - (q : Int) = ((WD.getD (woA o) []).length : Int)
      · have := m_here76 (D + 1) hall (hw o ho) (by omega) (WD.getD (woA o) []).length 0 (by omega)
        rw [if_pos cn]
        refine this.trans ?_
        rw [Nat.add_zero, List.drop_zero, show q + (WD.getD (woA o) []).length = le tp q by omega]
        by_cases c2 : slc tp q (le tp q) = WD.getD (woA o) []
        · rw [if_pos c2, if_pos (hx.mpr ⟨k1, c2⟩)]
        · rw [if_neg c2, if_neg (fun e => c2 (hx.mp e).2)]
      · rw [if_neg cn, if_neg]
        intro e
        have := congrArg List.length (hx.mp e).2
        rw [slc_l hle.1 hle.2] at this
        omega
  · rw [if_neg cl, if_pos rfl, if_neg]
    intro e
    exact cl (kd_1 (hx.mp e).1).2.1
theorem m_isHn (D : Nat) {s : Mem} {q : Nat} (h : QA s tp q) : ∃ s1, Fr PM2 s s1 ∧ QE s1 tp q ∧ ∀ n o, f_M_isHere (D + 2) n o s = f_M_isHere (D + 2) n o s1 := by
  obtain ⟨s1, e1, f1, g1⟩ := m_look D h
  refine ⟨s1, f1, g1, fun n o => ?_⟩
  rw [e_M_isHere, e_M_isHere, h.2.2.1, g1.1.2.2.1, if_pos rfl, if_pos rfl, e1, m_lookE D g1]
/-! what stands ahead of the next token -/
theorem bk_n {c : Int} (h : isBk c = true) : isLt c = false ∧ isDg c = false := by
  unfold isBk at h
  rw [Bool.or_eq_true, decide_eq_true_iff, decide_eq_true_iff] at h
  rcases h with rfl | rfl <;> decide
theorem gl_nx {q : Nat} (h : q ≤ tp.length) (he : q < en tp q) : gl tp (nx tp q) = if nx tp q = en tp q then (isLt (ch tp (en tp q - 1)) || isDg (ch tp (en tp q - 1))) else false := by
  have h2 := en_p h
  have h3 := ru_p (p := isBk) h2.2
  have h4 : en tp q ≤ nx tp q := h3.1
  unfold gl pv
  rw [if_neg (by omega)]
  by_cases c : nx tp q = en tp q
  · rw [if_pos c, c]
  · rw [if_neg c]
    have := bk_n (h3.2.2.2 (nx tp q - 1) (by omega) (by show nx tp q - 1 < nx tp q; omega))
    rw [this.1, this.2]; rfl
theorem gl_3 {q : Nat} (h : kd tp q = 3) : gl tp (nx tp q) = false := by
  have h0 := kd_lt (tp := tp) (q := q) (by omega)
  have e : en tp q = q + 1 := by unfold en; rw [if_pos h]
  rw [gl_nx (by omega) (by omega), e, Nat.add_sub_cancel, (kd_3 h).2.1, (kd_3 h).2.2]
  exact ite_self _
theorem gl_1 {q : Nat} (h : kd tp q = 1) : gl tp (nx tp q) = true ↔ nx tp q = le tp q := by
  have h0 := kd_lt (tp := tp) (q := q) (by omega)
  have e : en tp q = le tp q := by unfold en; rw [h]; rfl
  have h1 := en_lt (tp := tp) (q := q) (by omega)
  have h2 := (ru_p (p := isLt) (tp := tp) (i := q) (by omega)).2.2.2 (le tp q - 1) (by omega) (by show le tp q - 1 < le tp q; omega)
  rw [gl_nx (by omega) h1, e, h2]
  by_cases c : nx tp q = le tp q
  · rw [if_pos c]; exact ⟨fun _ => c, fun _ => rfl⟩
  · rw [if_neg c]; exact ⟨fun q => (by cases q), fun q => absurd q c⟩
theorem gl_2 {q : Nat} (h : kd tp q = 2) : gl tp (nx tp q) = true ↔ nx tp q = de tp q := by
  have h0 := kd_lt (tp := tp) (q := q) (by omega)
  have e : en tp q = de tp q := by unfold en; rw [h]; rfl
  have h1 := en_lt (tp := tp) (q := q) (by omega)
  have h2 := (ru_p (p := isDg) (tp := tp) (i := q) (by omega)).2.2.2 (de tp q - 1) (by omega) (by show de tp q - 1 < de tp q; omega)
  rw [gl_nx (by omega) h1, e, h2, Bool.or_true]
  by_cases c : nx tp q = de tp q
  · rw [if_pos c]; exact ⟨fun _ => c, fun _ => rfl⟩
  · rw [if_neg c]; exact ⟨fun q => (by cases q), fun q => absurd q c⟩
theorem m_fail (D : Nat) {s : Mem} (h : rI s 84 5 = 0) (a b : Int) : f_M_fail (D + 1) a b s = some (0, wI (wI s 84 5 a) 84 6 b) := by
  rw [e_M_fail, h, if_pos rfl]
/-- behind a word -/
theorem QA.wrd {s s' : Mem} {q : Nat} (h : QE s tp q) (k1 : kd tp q = 1) (hf : Fr PM4 s s') (h2 : rI s' 84 2 = (le tp q : Int)) (h4 : rI s' 84 4 = (le tp q : Int)) : QA s' tp (nx tp q) := by
  have hq := h.1.lq
  have e : en tp q = le tp q := by unfold en; rw [k1]; rfl
  have h3 := ru_p (p := isBk) (en_p hq).2
  have hn : en tp q ≤ nx tp q := h3.1
  refine h.1.pl hf h2 (by rw [← e]; exact (en_p hq).2) (by unfold nx; rw [e]) ?_ (by omega)
  rw [h4, gl_1 k1]
  omega
theorem QA.sig {s s' : Mem} {q : Nat} (h : QE s tp q) (k3 : kd tp q = 3) (hf : Fr PM2 s s') (h2 : rI s' 84 2 = ((q + 1 : Nat) : Int)) : QA s' tp (nx tp q) := by
  have h0 := kd_lt (tp := tp) (q := q) (by omega)
  have e : en tp q = q + 1 := by unfold en; rw [if_pos k3]
  have hn := nx_lt (tp := tp) (q := q) (by omega)
  have h4 : rI s' 84 4 = rI s 84 4 := hf.i (by omega)
  have h5 := h.1.2.2.2.2.2.1
  refine h.1.pl (hf.mo (fun a k q => by omega)) h2 (by omega) (by unfold nx; rw [e]) ?_ (by omega)
  rw [gl_3 k3]
  exact ⟨fun q => (by omega), fun q => (by cases q)⟩
theorem m_takes (D : Nat) {o : Nat} {s : Mem} {q : Nat} (h : QA s tp q) (ho : woO o = true) : (wd tp q = (woA o : Int) → ∃ s1, f_M_takes (D + 3) (WD.getD (woA o) []).length o s = some (1, s1) ∧ Fr PM4 s s1 ∧ QA s1 tp (nx tp q)) ∧ (wd tp q ≠ (woA o : Int) → ∃ s1, f_M_takes (D + 3) (WD.getD (woA o) []).length o s = some (0, s1) ∧ Fr PM2 s s1 ∧ QE s1 tp q) := by
  obtain ⟨s1, f1, g1, hn⟩ := m_isHn D h
  obtain ⟨o1, o2, o3, o4⟩ := woO_i ho
  have hl := h.1.2.1
  have hq := h.lq
  have f14 : Fr PM4 s s1 := f1.mo (fun a k q => by omega)
  rw [e_M_takes, hn, m_isH D g1 ho, Option.bind_some]
  constructor
  · intro e
    obtain ⟨k1, hs⟩ := (wd_ix o3).mp e
    have hle : q ≤ le tp q ∧ le tp q ≤ tp.length := ⟨(ru_p hq).1, (ru_p hq).2.1⟩
    have hlen := congrArg List.length hs
    rw [slc_l hle.1 hle.2] at hlen
    rw [if_pos e]
    simp only []
    rw [if_neg (by decide), g1.2, w32_i (by omega) (by omega), show (q : Int) + ((WD.getD (woA o) []).length : Int) = (le tp q : Int) by omega]
    refine ⟨_, rfl, (f14.w (by omega)).w (by omega), QA.wrd g1 k1 ((Fr.rf.w (by omega)).w (by omega)) ?_ (rI_same _ _ _ _)⟩
    rw [rI_other _ _ _ _ (by omega), rI_same]
  · intro e
    rw [if_neg e]
    exact ⟨s1, if_pos rfl, f1, g1⟩
theorem m_asks (D : Nat) {o : Nat} {s : Mem} {q : Nat} (h : QA s tp q) (ho : woO o = true) : (wd tp q = (woA o : Int) → ∃ s1, f_M_asks (D + 4) (WD.getD (woA o) []).length o s = some (0, s1) ∧ Fr PM4 s s1 ∧ QA s1 tp (nx tp q)) ∧ (wd tp q ≠ (woA o : Int) → ∃ s1, f_M_asks (D + 4) (WD.getD (woA o) []).length o s = some (0, s1) ∧ Fr (fun a k => a = 84 ∧ (k = 2 ∨ k = 5 ∨ k = 6)) s s1 ∧ rI s1 84 5 = 1 ∧ rI s1 84 6 = (q : Int)) := by
  have ht := m_takes D h ho
  rw [e_M_asks, h.2.2.1, if_pos rfl]
  constructor
  · intro e
    obtain ⟨s1, e1, f1, g1⟩ := ht.1 e
    rw [e1, Option.bind_some]
    exact ⟨s1, if_neg one_nz, f1, g1⟩
  · intro e
    obtain ⟨s1, e1, f1, g1⟩ := ht.2 e
    rw [e1, Option.bind_some]
    simp only []
    rw [if_pos trivial, m_fail (D + 2) g1.1.2.2.1, Option.bind_some, g1.2]
    exact ⟨_, rfl, ((f1.mo (fun a k q => by omega)).w (by omega)).w (by omega), by rw [rI_other _ _ _ _ (by omega), rI_same], rI_same _ _ _ _⟩
/-- a byte that is a sign -/
def isSg (c : Int) : Bool := decide (0 ≤ c) && !isLt c && !isDg c
theorem sg_ch {q : Nat} {v : Int} (hv : isSg v = true) : sg tp q = v ↔ ch tp q = v := by
  unfold isSg at hv
  simp only [Bool.and_eq_true, decide_eq_true_iff, Bool.not_eq_true'] at hv
  unfold sg
  by_cases k : kd tp q = 3
  · rw [if_pos k]
  · rw [if_neg k]
    refine ⟨fun e => (by omega), fun e => absurd ?_ k⟩
    have hq : q < tp.length := by
      rcases Nat.lt_or_ge q tp.length with c | c
      · exact c
      · exfalso
        unfold ch at e
        rw [if_neg (by omega)] at e
        omega
    unfold kd
    rw [if_neg (by omega), if_pos ⟨by rw [e]; exact hv.1.2, by rw [e]; exact hv.2⟩]
theorem m_takesSign (D : Nat) {s : Mem} {q : Nat} (h : QA s tp q) {v : Int} (hv : isSg v = true) : (sg tp q = v → ∃ s1, f_M_takesSign (D + 2) v s = some (1, s1) ∧ Fr PM2 s s1 ∧ QA s1 tp (nx tp q) ∧ rI s1 84 2 = ((q + 1 : Nat) : Int)) ∧ (sg tp q ≠ v → ∃ s1, f_M_takesSign (D + 2) v s = some (0, s1) ∧ Fr PM2 s s1 ∧ QE s1 tp q) := by
  obtain ⟨s1, e1, f1, g1⟩ := m_look D h
  have hl := h.1.2.1
  have hq := h.lq
  rw [e_M_takesSign, h.2.2.1, if_pos rfl, e1, Option.bind_some]
  simp only []
  constructor
  · intro e
    have k3 : kd tp q = 3 := by
      refine (sg_3 e ?_).1
      intro q
      rw [q] at hv
      exact absurd hv (by decide)
    rw [if_pos ((sg_ch hv).mp e), g1.2, w32_s (by omega)]
    exact ⟨_, rfl, f1.w ⟨rfl, rfl⟩, QA.sig g1 k3 (Fr.rf.w ⟨rfl, rfl⟩) (rI_same _ _ _ _), rI_same _ _ _ _⟩
  · intro e
    rw [if_neg (fun q => e ((sg_ch hv).mpr q))]
    exact ⟨s1, rfl, f1, g1⟩
theorem m_asksSign (D : Nat) {s : Mem} {q : Nat} (h : QA s tp q) {v : Int} (hv : isSg v = true) : (sg tp q = v → ∃ s1, f_M_asksSign (D + 3) v s = some (0, s1) ∧ Fr PM2 s s1 ∧ QA s1 tp (nx tp q)) ∧ (sg tp q ≠ v → ∃ s1, f_M_asksSign (D + 3) v s = some (0, s1) ∧ Fr (fun a k => a = 84 ∧ (k = 2 ∨ k = 5 ∨ k = 6)) s s1 ∧ rI s1 84 5 = 1 ∧ rI s1 84 6 = (q : Int)) := by
  have ht := m_takesSign D h hv
  rw [e_M_asksSign, h.2.2.1, if_pos rfl]
  constructor
  · intro e
    obtain ⟨s1, e1, f1, g1, -⟩ := ht.1 e
    rw [e1, Option.bind_some]
    exact ⟨s1, if_neg one_nz, f1, g1⟩
  · intro e
    obtain ⟨s1, e1, f1, g1⟩ := ht.2 e
    rw [e1, Option.bind_some]
    simp only []
    rw [if_pos trivial, m_fail (D + 1) g1.1.2.2.1, Option.bind_some, g1.2]
    exact ⟨_, rfl, ((f1.mo (fun a k q => by omega)).w (by omega)).w (by omega), by rw [rI_other _ _ _ _ (by omega), rI_same], rI_same _ _ _ _⟩
end MTOK
