/-! the reference's sums are their spec -/
section MSUM3
variable {tp : List Int}
/-- what comes of it: a fault, or on with Y from where the text goes on -/
def MPr (tp : List Int) (X : Rs) (Y : Mem → Rs) (res : Res) (s : Mem) (k : Nat) (W C : List Int) (o b : Nat) : Prop := match res with
  | .inl e => ∃ s1, X = some (0, s1) ∧ Fr PQp s s1 ∧ MFlt s1 e
  | .inr x => ∃ s1, X = Y s1 ∧ Fr PQp s s1 ∧ QA s1 tp x.1 ∧ QK s1 k W (C ++ x.2) o b
/-- the same with signs that wait: from l on -/
def MOp (tp : List Int) (l : Int) (X : Rs) (Y : Mem → Rs) (res : Res) (s : Mem) (k : Nat) (W C : List Int) (o b : Nat) : Prop := match res with
  | .inl e => ∃ s1, X = some (0, s1) ∧ Fr PQp s s1 ∧ MFlt s1 e
  | .inr x => ∃ s1 ms C1, X = Y s1 ∧ Fr PQp s s1 ∧ QA s1 tp x.1 ∧ QK s1 k (ms ++ W) C1 o b ∧ C1 ++ ms = C ++ x.2 ∧ (∀ v ∈ ms, l ≤ v ∧ v ≤ 4) ∧ oP tp x.1 = 0 ∧ (l = 1 → oS tp x.1 = 0)
theorem MPr.cs {X : Rs} {Y : Mem → Rs} {res : Res} {s : Mem} {k : Nat} {W C : List Int} {o b : Nat} (h : MPr tp X Y res s k W C o b) : (∃ e s1, res = .inl e ∧ X = some (0, s1) ∧ Fr PQp s s1 ∧ MFlt s1 e) ∨ ∃ q c s1, res = .inr (q, c) ∧ X = Y s1 ∧ Fr PQp s s1 ∧ QA s1 tp q ∧ QK s1 k W (C ++ c) o b := by
  match res, h with
  | .inl e, ⟨s1, h1, h2, h3⟩ => exact Or.inl ⟨e, s1, rfl, h1, h2, h3⟩
  | .inr (q, c), ⟨s1, h1, h2, h3, h4⟩ => exact Or.inr ⟨q, c, s1, rfl, h1, h2, h3, h4⟩
theorem MPr.tr {X X0 : Rs} {Y : Mem → Rs} {res : Res} {s s0 : Mem} {k : Nat} {W C : List Int} {o b : Nat} (h : MPr tp X Y res s k W C o b) (he : X0 = X) (hf : Fr PQp s0 s) : MPr tp X0 Y res s0 k W C o b := by
  match res, h with
  | .inl e, ⟨s1, h1, h2, h3⟩ => exact ⟨s1, he.trans h1, hf.tr h2, h3⟩
  | .inr (q, c), ⟨s1, h1, h2, h3, h4⟩ => exact ⟨s1, he.trans h1, hf.tr h2, h3, h4⟩
theorem MOp.cs {l : Int} {X : Rs} {Y : Mem → Rs} {res : Res} {s : Mem} {k : Nat} {W C : List Int} {o b : Nat} (h : MOp tp l X Y res s k W C o b) : (∃ e s1, res = .inl e ∧ X = some (0, s1) ∧ Fr PQp s s1 ∧ MFlt s1 e) ∨ ∃ q c s1 ms C1, res = .inr (q, c) ∧ X = Y s1 ∧ Fr PQp s s1 ∧ QA s1 tp q ∧ QK s1 k (ms ++ W) C1 o b ∧ C1 ++ ms = C ++ c ∧ (∀ v ∈ ms, l ≤ v ∧ v ≤ 4) ∧ oP tp q = 0 ∧ (l = 1 → oS tp q = 0) := by
  match res, h with
  | .inl e, ⟨s1, h1, h2, h3⟩ => exact Or.inl ⟨e, s1, rfl, h1, h2, h3⟩
  | .inr (q, c), ⟨s1, ms, C1, h1, h2, h3, h4, h5, h6, h7, h8⟩ => exact Or.inr ⟨q, c, s1, ms, C1, rfl, h1, h2, h3, h4, h5, h6, h7, h8⟩
theorem MOp.tr {l : Int} {X X0 : Rs} {Y : Mem → Rs} {res : Res} {s s0 : Mem} {k : Nat} {W C : List Int} {o b : Nat} (h : MOp tp l X Y res s k W C o b) (he : X0 = X) (hf : Fr PQp s0 s) : MOp tp l X0 Y res s0 k W C o b := by
  match res, h with
  | .inl e, ⟨s1, h1, h2, h3⟩ => exact ⟨s1, he.trans h1, hf.tr h2, h3⟩
  | .inr (q, c), ⟨s1, ms, C1, h1, h2, h3⟩ => exact ⟨s1, ms, C1, he.trans h1, hf.tr h2, h3⟩
variable {k : Nat}
def MPart (tp : List Int) (k E : Nat) (was : Int) (b : Nat) (pt : Nat → Res) (o : Nat) : Prop := ∀ (q : Nat) (W C : List Int) (s : Mem), QA s tp q → QK s k W C o b → C.length + W.length ≤ q → b ≤ W.length → MPr tp (mKA (E + 6) was s) (mKB (E + 6) was) (pt q) s k W C o b
theorem hd_app {ms W : List Int} {l : Int} (h : ∀ v ∈ ms, l ≤ v ∧ v ≤ 4) (hW : W.headD 0 < 60) : (ms ++ W).headD 0 < 60 := by
  match ms, h with
  | [], _ => exact hW
  | x :: ms, h =>
    have := h x List.mem_cons_self
    show x < 60
    omega
theorem m_prodW (E : Nat) {was : Int} {o b : Nat} {pt : Nat → Res} (hg : Good tp pt) (hp : MPart tp k E was b pt o) {W : List Int} (hW : ¬ (3 ≤ W.headD 0 ∧ W.headD 0 ≤ 4)) (hW2 : W.headD 0 < 60) (hb : b ≤ W.length) : ∀ (f q : Nat) (ms C1 c1 C : List Int) (s : Mem), QA s tp q → QK s k (ms ++ W) C1 o b → C1 ++ ms = C ++ c1 → (∀ v ∈ ms, 3 ≤ v ∧ v ≤ 4) → C.length + c1.length + W.length ≤ q → tp.length ≤ f + q → MOp tp 3 (mKB (E + 6) was s) (mKB (E + 6) was) (lpW tp (oP tp) pt f q c1) s k W C o b
  | 0, q, ms, C1, c1, C, s, h, hK, he, hm, hl, hf => by
    have e : oP tp q = 0 := by
      rcases Classical.em (oP tp q = 0) with e | e
      · exact e
      · have := (Ops_P q e).2.2; omega
    exact ⟨s, ms, C1, rfl, Fr.rf, h, hK, he, hm, e, fun q => absurd q (by decide)⟩
  | f + 1, q, ms, C1, c1, C, s, h, hK, he, hm, hl, hf => by
    have h16 := h.1.2.1
    have hq := h.lq
    unfold lpW
    by_cases e : oP tp q = 0
    · rw [if_pos e]
      exact ⟨s, ms, C1, rfl, Fr.rf, h, hK, he, hm, e, fun q => absurd q (by decide)⟩
    · rw [if_neg e]
      obtain ⟨n1, n2, n3⟩ := Ops_P q e
      have hlen := congrArg List.length he
      rw [List.length_append, List.length_append] at hlen
      have hlm : (ms ++ W).length = ms.length + W.length := List.length_append
      have e0 := mkb_go (was := was) E hK h.2.2.1 (by omega) (hd_app hm hW2)
      obtain ⟨s1, e1, f1, g1, K1⟩ := go_star (was := was) E h hK hm hW (by omega) e
      have hl1 : (C1 ++ ms).length + (oP tp q :: W).length ≤ nx tp q := by rw [List.length_append, List.length_cons]; omega
      rcases (hp (nx tp q) (oP tp q :: W) (C1 ++ ms) s1 g1 K1 hl1 (by rw [List.length_cons]; omega)).cs with ⟨er, s2, r1, r2, f2, g2⟩ | ⟨q1, c2, s2, r1, r2, f2, g2, K2⟩
      · rw [r1]
        exact ⟨s2, e0.trans (e1.trans r2), f1.tr f2, g2⟩
      · obtain ⟨a1, a2, a3⟩ := hg _ _ _ n2.1 r1
        rw [r1]
        have hop : oP tp q = 3 ∨ oP tp q = 4 := (oP_1 e).elim (fun q => Or.inl q.2) (fun q => Or.inr q.2)
        refine (m_prodW E hg hp hW hW2 hb f q1 [oP tp q] (C1 ++ ms ++ c2) (c1 ++ c2 ++ [oP tp q]) C s2 g2 K2 ?_ (fun v hv => ?_) ?_ (by omega)).tr (e0.trans (e1.trans r2)) (f1.tr f2)
        · rw [he]; simp only [List.append_assoc]
        · rw [List.mem_singleton.mp hv]; omega
        · rw [List.length_append, List.length_append, List.length_singleton]; omega
theorem m_prod (E : Nat) {was : Int} {o b : Nat} {pt : Nat → Res} (hg : Good tp pt) (hp : MPart tp k E was b pt o) {W : List Int} (hW : ¬ (3 ≤ W.headD 0 ∧ W.headD 0 ≤ 4)) (hW2 : W.headD 0 < 60) (hb : b ≤ W.length) {q : Nat} {C : List Int} {s : Mem} (h : QA s tp q) (hK : QK s k W C o b) (hl : C.length + W.length ≤ q) : MOp tp 3 (mKA (E + 6) was s) (mKB (E + 6) was) (lpL tp (oP tp) pt q) s k W C o b := by
  have hq := h.lq
  unfold lpL
  rcases (hp q W C s h hK hl hb).cs with ⟨er, s2, r1, r2, f2, g2⟩ | ⟨q1, c2, s2, r1, r2, f2, g2, K2⟩
  · rw [r1]
    exact ⟨s2, r2, f2, g2⟩
  · obtain ⟨a1, a2, a3⟩ := hg _ _ _ hq r1
    rw [r1]
    refine (m_prodW E hg hp hW hW2 hb tp.length q1 [] (C ++ c2) c2 C s2 g2 K2 (List.append_nil _) (fun v hv => by cases hv) (by omega) (by omega)).tr r2 f2
theorem m_sumW (E : Nat) {was : Int} {o b : Nat} {pt : Nat → Res} (hg : Good tp pt) (hp : MPart tp k E was b pt o) {W : List Int} (hW : ¬ (1 ≤ W.headD 0 ∧ W.headD 0 ≤ 4)) (hW2 : W.headD 0 < 60) (hb : b ≤ W.length) : ∀ (f q : Nat) (ms C1 c1 C : List Int) (s : Mem), QA s tp q → QK s k (ms ++ W) C1 o b → C1 ++ ms = C ++ c1 → Ops4 ms → oP tp q = 0 → C.length + c1.length + W.length ≤ q → tp.length ≤ f + q → MOp tp 1 (mKB (E + 6) was s) (mKB (E + 6) was) (lpW tp (oS tp) (lpL tp (oP tp) pt) f q c1) s k W C o b
  | 0, q, ms, C1, c1, C, s, h, hK, he, hm, hP, hl, hf => by
    have e : oS tp q = 0 := by
      rcases Classical.em (oS tp q = 0) with e | e
      · exact e
      · have := (Ops_S q e).2.2; omega
    exact ⟨s, ms, C1, rfl, Fr.rf, h, hK, he, hm, hP, fun _ => e⟩
  | f + 1, q, ms, C1, c1, C, s, h, hK, he, hm, hP, hl, hf => by
    have h16 := h.1.2.1
    have hq := h.lq
    unfold lpW
    by_cases e : oS tp q = 0
    · rw [if_pos e]
      exact ⟨s, ms, C1, rfl, Fr.rf, h, hK, he, hm, hP, fun _ => e⟩
    · rw [if_neg e]
      obtain ⟨n1, n2, n3⟩ := Ops_S q e
      have hlen := congrArg List.length he
      rw [List.length_append, List.length_append] at hlen
      have hlm : (ms ++ W).length = ms.length + W.length := List.length_append
      have e0 := mkb_go (was := was) E hK h.2.2.1 (by omega) (hd_app hm hW2)
      obtain ⟨s1, e1, f1, g1, K1⟩ := go_plus (was := was) E h hK hm hW (by omega) e
      have hl1 : (C1 ++ ms).length + (oS tp q :: W).length ≤ nx tp q := by rw [List.length_append, List.length_cons]; omega
      have hos : oS tp q = 1 ∨ oS tp q = 2 := (oS_1 e).elim (fun q => Or.inl q.2) (fun q => Or.inr q.2)
      have hd : (oS tp q :: W).headD 0 = oS tp q := rfl
      rcases (m_prod E hg hp (W := oS tp q :: W) (by rw [hd]; omega) (by rw [hd]; omega) (by rw [List.length_cons]; omega) g1 K1 hl1).cs with ⟨er, s2, r1, r2, f2, g2⟩ | ⟨q1, c2, s2, ms2, C2, r1, r2, f2, g2, K2, he2, hm2, hP2, -⟩
      · rw [r1]
        exact ⟨s2, e0.trans (e1.trans r2), f1.tr f2, g2⟩
      · obtain ⟨a1, a2, a3⟩ := lpL_g Ops_P hg _ _ _ n2.1 r1
        rw [r1]
        have hK2 : QK s2 k ((ms2 ++ [oS tp q]) ++ W) C2 o b := by rw [List.append_assoc]; exact K2
        refine (m_sumW E hg hp hW hW2 hb f q1 (ms2 ++ [oS tp q]) C2 (c1 ++ c2 ++ [oS tp q]) C s2 g2 hK2 ?_ (fun v hv => ?_) hP2 ?_ (by omega)).tr (e0.trans (e1.trans r2)) (f1.tr f2)
        · rw [← List.append_assoc, he2, he]; simp only [List.append_assoc]
        · rcases List.mem_append.mp hv with hv | hv
          · have := hm2 v hv; omega
          · rw [List.mem_singleton.mp hv]; omega
        · rw [List.length_append, List.length_append, List.length_singleton]; omega
theorem m_sum (E : Nat) {was : Int} {o b : Nat} {pt : Nat → Res} (hg : Good tp pt) (hp : MPart tp k E was b pt o) {W : List Int} (hW : ¬ (1 ≤ W.headD 0 ∧ W.headD 0 ≤ 4)) (hW2 : W.headD 0 < 60) (hb : b ≤ W.length) {q : Nat} {C : List Int} {s : Mem} (h : QA s tp q) (hK : QK s k W C o b) (hl : C.length + W.length ≤ q) : MOp tp 1 (mKA (E + 6) was s) (mKB (E + 6) was) (sumP tp pt q) s k W C o b := by
  have hq := h.lq
  unfold sumP
  have := m_prod E hg hp (W := W) (by omega) hW2 hb h hK hl
  show MOp tp 1 (mKA (E + 6) was s) (mKB (E + 6) was) (bnd (lpL tp (oP tp) pt q) (fun q1 c1 => lpW tp (oS tp) (lpL tp (oP tp) pt) tp.length q1 c1)) s k W C o b
  rcases this.cs with ⟨er, s2, r1, r2, f2, g2⟩ | ⟨q1, c2, s2, ms2, C2, r1, r2, f2, g2, K2, he2, hm2, hP2, -⟩
  · rw [r1]
    exact ⟨s2, r2, f2, g2⟩
  · obtain ⟨a1, a2, a3⟩ := lpL_g Ops_P hg _ _ _ hq r1
    rw [r1]
    exact (m_sumW E hg hp hW hW2 hb tp.length q1 ms2 C2 c2 C s2 g2 K2 he2 (fun v hv => by have := hm2 v hv; omega) hP2 (by omega) (by omega)).tr r2 f2
def MSub (tp : List Int) (k E : Nat) (was : Int) (b o : Nat) : Option (Nat → Res) → Prop
  | none => o = 6
  | some pt => o < 6 ∧ Good tp pt ∧ MPart tp k E was b pt (o + 1)
theorem m_parS (E : Nat) {was : Int} {o b : Nat} {sub : Option (Nat → Res)} (hk : k ≤ 3) (ho : o ≤ 6) (hsub : MSub tp k E was b o sub) : MPart tp k E was b (parS tp k sub) o := fun q W C s h hK hl hb => by
  have h16 := h.1.2.1
  have hq := h.lq
  unfold parS
  by_cases k2 : kd tp q = 2
  · have n40 : ¬ sg tp q = 40 := fun e => by have := (sg_3 e (by decide)).1; omega
    have nw : wd tp q = -1 := by unfold wd; rw [if_neg (by omega)]
    have hlf := ka_leaf (was := was) E h hk hK hl n40 (by omega) (by omega)
    rw [if_pos k2]
    by_cases c4 : 4 < de tp q - q
    · obtain ⟨s1, e1, f1, g1⟩ := hlf.2.2.1 k2 c4
      rw [if_pos c4]
      exact ⟨s1, e1, f1, g1⟩
    · obtain ⟨s1, e1, f1, g1, K1⟩ := hlf.2.1 k2 (by omega)
      rw [if_neg c4]
      exact ⟨s1, e1, f1, g1, K1⟩
  · rw [if_neg k2]
    by_cases c40 : sg tp q = 40
    · rw [if_pos c40]
      have hpar := ka_par (was := was) E h hk hK hl c40
      match sub, hsub with
      | none, hsub =>
        obtain ⟨s1, e1, f1, g1⟩ := hpar.2 hsub
        exact ⟨s1, e1, f1, g1⟩
      | some pt, ⟨ho6, hg, hp⟩ =>
        dsimp only
        obtain ⟨s1, e1, f1, g1, K1⟩ := hpar.1 ho6
        obtain ⟨n1, n2, n3⟩ := nx_s c40 (by decide)
        rcases (m_sum E hg hp (W := 20 :: W) (show ¬ (1 ≤ (20 : Int) ∧ (20 : Int) ≤ 4) by decide) (show (20 : Int) < 60 by decide) (by rw [List.length_cons]; omega) g1 K1 (by rw [List.length_cons]; omega)).cs with ⟨er, s2, r1, r2, f2, g2⟩ | ⟨q1, c1, s2, ms, C2, r1, r2, f2, g2, K2, he, hm, hP, hS⟩
        · rw [r1]
          exact ⟨s2, e1.trans r2, f1.tr f2, g2⟩
        · obtain ⟨a1, a2, a3⟩ := sumP_g hg _ _ _ n2.1 r1
          have hq1 := g2.lq
          have hlen := congrArg List.length he
          rw [List.length_append, List.length_append] at hlen
          have hlm : (ms ++ 20 :: W).length = ms.length + (W.length + 1) := by rw [List.length_append, List.length_cons]
          have e0 := mkb_go (was := was) E K2 g2.2.2.1 (by omega) (hd_app hm (show (20 : Int) < 60 by decide))
          rw [r1]
          simp only [bnd]
          unfold asg
          by_cases c41 : sg tp q1 = 41
          · obtain ⟨s3, e3, f3, g3, K3⟩ := go_close (was := was) E g2 K2 hm (Or.inl rfl) hb ho6 (by omega) c41
            rw [if_pos c41]
            refine ⟨s3, e1.trans (r2.trans (e0.trans e3)), (f1.tr f2).tr f3, g3, ?_⟩
            rw [he, show clo 20 = [] from rfl, List.append_nil] at K3
            exact K3
          · obtain ⟨s3, e3, f3, g3⟩ := go_shut (was := was) E g2 K2 hm (Or.inl rfl) hb (by omega) c41 hP (hS rfl)
            rw [if_neg c41]
            exact ⟨s3, e1.trans (r2.trans (e0.trans e3)), (f1.tr f2).tr f3, g3⟩
    · rw [if_neg c40]
      by_cases c25 : wd tp q = 25 ∨ wd tp q = 26
      · rw [if_pos c25]
        have hmm := ka_mm (was := was) E h hk hK hl c25
        obtain ⟨n1, n2, n3⟩ : q < nx tp q ∧ St tp (nx tp q) ∧ q < tp.length := c25.elim (fun e => nx_w e (by decide)) (fun e => nx_w e (by decide))
        by_cases c2 : sg tp (nx tp q) = 40
        · rw [if_pos c2]
          obtain ⟨l1, l2, l3⟩ := nx_s c2 (by decide)
          match sub, hsub with
          | none, hsub =>
            obtain ⟨s1, e1, f1, g1⟩ := hmm.2.1 c2 hsub
            exact ⟨s1, e1, f1, g1⟩
          | some pt, ⟨ho6, hg, hp⟩ =>
            dsimp only
            obtain ⟨s1, e1, f1, g1, K1⟩ := hmm.1 c2 ho6
            have hv : (if wd tp q = 25 then (21 : Int) else 22) = 21 ∨ (if wd tp q = 25 then (21 : Int) else 22) = 22 := by split <;> simp
            have hcl : clo ((if wd tp q = 25 then (21 : Int) else 22) + 2) = [if wd tp q = 25 then 5 else 6] := by split <;> rfl
            generalize (if wd tp q = 25 then (21 : Int) else 22) = v at hv hcl K1
            have hd : (v :: W).headD 0 = v := rfl
            have hd2 : ((v + 2) :: W).headD 0 = v + 2 := rfl
            rcases (m_sum E hg hp (W := v :: W) (by rw [hd]; omega) (by rw [hd]; omega) (by rw [List.length_cons]; omega) g1 K1 (by rw [List.length_cons]; omega)).cs with ⟨er, s2, r1, r2, f2, g2⟩ | ⟨q1, c1, s2, ms, C2, r1, r2, f2, g2, K2, he, hm, hP, hS⟩
            · rw [r1]
              exact ⟨s2, e1.trans r2, f1.tr f2, g2⟩
            · obtain ⟨a1, a2, a3⟩ := sumP_g hg _ _ _ l2.1 r1
              have hq1 := g2.lq
              have hlen := congrArg List.length he
              rw [List.length_append, List.length_append] at hlen
              have hlm : (ms ++ v :: W).length = ms.length + (W.length + 1) := by rw [List.length_append, List.length_cons]
              have e0 := mkb_go (was := was) E K2 g2.2.2.1 (by omega) (hd_app hm (by rw [hd]; omega))
              rw [r1]
              simp only [bnd]
              have hco := go_comma (was := was) E g2 K2 hm hv hb (by omega) hP (hS rfl)
              unfold asg
              by_cases c44 : sg tp q1 = 44
              · obtain ⟨s3, e3, f3, g3, K3⟩ := hco.1 c44
                obtain ⟨m1, m2, m3⟩ := nx_s c44 (by decide)
                rw [if_pos c44]
                dsimp only
                have hl3 : (C2 ++ ms).length + ((v + 2) :: W).length ≤ nx tp q1 := by rw [List.length_append, List.length_cons]; omega
                rcases (m_sum E hg hp (W := (v + 2) :: W) (by rw [hd2]; omega) (by rw [hd2]; omega) (by rw [List.length_cons]; omega) g3 K3 hl3).cs with ⟨er, s4, r3, r4, f4, g4⟩ | ⟨q3, c3, s4, ms4, C4, r3, r4, f4, g4, K4, he4, hm4, hP4, hS4⟩
                · rw [r3]
                  exact ⟨s4, e1.trans (r2.trans (e0.trans (e3.trans r4))), ((f1.tr f2).tr f3).tr f4, g4⟩
                · obtain ⟨a4, a5, a6⟩ := sumP_g hg _ _ _ m2.1 r3
                  have hq3 := g4.lq
                  have hlen4 := congrArg List.length he4
                  rw [List.length_append, List.length_append, List.length_append] at hlen4
                  have hlm4 : (ms4 ++ (v + 2) :: W).length = ms4.length + (W.length + 1) := by rw [List.length_append, List.length_cons]
                  have e4 := mkb_go (was := was) E K4 g4.2.2.1 (by omega) (hd_app hm4 (by rw [hd2]; omega))
                  rw [r3]
                  simp only []
                  by_cases c41 : sg tp q3 = 41
                  · obtain ⟨s5, e5, f5, g5, K5⟩ := go_close (was := was) E g4 K4 hm4 (by omega) hb ho6 (by omega) c41
                    rw [if_pos c41]
                    refine ⟨s5, e1.trans (r2.trans (e0.trans (e3.trans (r4.trans (e4.trans e5))))), (((f1.tr f2).tr f3).tr f4).tr f5, g5, ?_⟩
                    rw [he4, he, hcl] at K5
                    simp only [List.append_assoc] at K5 ⊢
                    exact K5
                  · obtain ⟨s5, e5, f5, g5⟩ := go_shut (was := was) E g4 K4 hm4 (by omega) hb (by omega) c41 hP4 (hS4 rfl)
                    rw [if_neg c41]
                    exact ⟨s5, e1.trans (r2.trans (e0.trans (e3.trans (r4.trans (e4.trans e5))))), (((f1.tr f2).tr f3).tr f4).tr f5, g5⟩
              · obtain ⟨s3, e3, f3, g3⟩ := hco.2 c44
                rw [if_neg c44]
                exact ⟨s3, e1.trans (r2.trans (e0.trans e3)), (f1.tr f2).tr f3, g3⟩
        · obtain ⟨s1, e1, f1, g1⟩ := hmm.2.2 c2
          rw [if_neg c2]
          exact ⟨s1, e1, f1, g1⟩
      · rw [if_neg c25]
        by_cases cf : k = 3 ∧ (wd tp q = 19 ∨ wd tp q = 20)
        · rw [if_pos cf]
          have hof := ka_of (was := was) E h hk hK hl cf
          obtain ⟨n1, n2, n3⟩ : q < nx tp q ∧ St tp (nx tp q) ∧ q < tp.length := cf.2.elim (fun e => nx_w e (by decide)) (fun e => nx_w e (by decide))
          match sub, hsub with
          | none, hsub =>
            obtain ⟨s1, e1, f1, g1⟩ := hof.2 hsub
            exact ⟨s1, e1, f1, g1⟩
          | some pt, ⟨ho6, hg, hp⟩ =>
            dsimp only
            obtain ⟨s1, e1, f1, g1, K1⟩ := hof.1 ho6
            have hv : (if wd tp q = 19 then (60 : Int) else 61) = 60 ∨ (if wd tp q = 19 then (60 : Int) else 61) = 61 := by split <;> simp
            generalize (if wd tp q = 19 then (60 : Int) else 61) = v at hv K1 ⊢
            rcases (hp (nx tp q) (v :: W) C s1 g1 K1 (by rw [List.length_cons]; omega) (by rw [List.length_cons]; omega)).cs with ⟨er, s2, r1, r2, f2, g2⟩ | ⟨q1, c1, s2, r1, r2, f2, g2, K2⟩
            · rw [r1]
              exact ⟨s2, e1.trans r2, f1.tr f2, g2⟩
            · obtain ⟨a1, a2, a3⟩ := hg _ _ _ n2.1 r1
              have hq1 := g2.lq
              have hlc : (C ++ c1).length = C.length + c1.length := List.length_append
              obtain ⟨s3, e3, f3, K3⟩ := m_ends1 (E + 3) K2 g2.2.2.1 (by omega) hb (by omega) (by omega) (by omega)
              have e4 : mKB (E + 6) was s2 = mKB (E + 6) was s3 := by
                unfold mKB
                rw [e_M_qEndsPart, e3, e_M_qEndsPart]
              rw [r1]
              refine ⟨s3, e1.trans (r2.trans e4), (f1.tr f2).tr f3.mk, g2.kk f3, ?_⟩
              rw [List.append_assoc] at K3
              exact K3
        · rw [if_neg cf]
          have hlf := ka_leaf (was := was) E h hk hK hl c40 c25 cf
          by_cases ca : alw k (wd tp q) = true
          · obtain ⟨s1, e1, f1, g1, K1⟩ := hlf.1 ca
            rw [if_pos ca]
            exact ⟨s1, e1, f1, g1, K1⟩
          · obtain ⟨s1, e1, f1, g1⟩ := hlf.2.2.2 k2 (Bool.eq_false_iff.mpr ca)
            rw [if_neg ca]
            exact ⟨s1, e1, f1, g1⟩
theorem m_partL (E : Nat) (was : Int) (b : Nat) (hk : k ≤ 3) : ∀ n o : Nat, n + o = 6 → MPart tp k E was b (parL tp k n) o
  | 0, o, hn => m_parS E (sub := none) hk (by omega) (show o = 6 by omega)
  | n + 1, o, hn => m_parS E (sub := some (parL tp k n)) hk (by omega) ⟨by omega, parL_g k n, m_partL E was b hk n (o + 1) (by omega)⟩
/-- a whole sum -/
theorem m_qSums (E : Nat) {n o b0 : Nat} {W C : List Int} {q : Nat} {s : Mem} (hk : k ≤ 3) (hn : n + o = 6) (h : QA s tp q) (hK : QK s k W C o b0) (hl : C.length + W.length ≤ q) (hW : ¬ (1 ≤ W.headD 0 ∧ W.headD 0 ≤ 4)) (hW2 : W.headD 0 < 60) : MPr tp (f_M_qSums (E + 8) s) (fun s1 => some (0, s1)) (sumL tp k n q) s k W C o b0 := by
  have f0 : Fr PQk s (wI s 84 103 (W.length : Int)) := Fr.rf.w (by unfold PQk; omega)
  have g0 := h.kk f0
  have K0 : QK (wI s 84 103 (W.length : Int)) k W C o W.length := hK.bs
  have hq := h.lq
  have h16 := h.1.2.1
  have e0 : f_M_qSums (E + 8) s = mKA (E + 6) (b0 : Int) (wI s 84 103 (W.length : Int)) := by
    rw [e_M_qSums, hK.2.2.2.2, hK.2.2.1.1]
    exact mKA_15 _ g0.2.2.1
  unfold sumL
  rcases (m_sum E (parL_g k n) (m_partL E (b0 : Int) W.length hk n o hn) hW hW2 (Nat.le_refl _) g0 K0 hl).cs with ⟨er, s2, r1, r2, f2, g2⟩ | ⟨q1, c1, s2, ms, C2, r1, r2, f2, g2, K2, he, hm, hP, hS⟩
  · rw [r1]
    exact ⟨s2, e0.trans r2, f0.mk.tr f2, g2⟩
  · obtain ⟨a1, a2, a3⟩ := sumP_g (parL_g k n) _ _ _ hq r1
    have hq1 := g2.lq
    have hlen := congrArg List.length he
    rw [List.length_append, List.length_append] at hlen
    have hlm : (ms ++ W).length = ms.length + W.length := List.length_append
    have e1 := mkb_go (was := (b0 : Int)) E K2 g2.2.2.1 (by omega) (hd_app hm hW2)
    obtain ⟨s3, e3, f3, g3, K3⟩ := go_end (b0 := b0) E g2 K2 hm rfl (by omega) hP (hS rfl)
    rw [r1]
    refine ⟨s3, e0.trans (r2.trans (e1.trans e3)), (f0.mk.tr f2).tr f3, g3.1, ?_⟩
    rw [he] at K3
    exact K3
end MSUM3
