/-! the tape, on both sides: feed, end; the small answers -/
/-- an array begins with these numbers -/
def Ag (s : Mem) (p : Nat) (ls : List Int) : Prop := ∀ i, i < ls.length → rI s p i = ls.getD i 0
theorem Ag.fr {s s' : Mem} {p : Nat} {ls : List Int} {P : Nat → Nat → Prop} (h : Ag s p ls) (hf : Fr P s s') (hp : ∀ i, i < ls.length → ¬ P p i) : Ag s' p ls := fun i hi => (hf.i (hp i hi)).trans (h i hi)
theorem getD_l {ls : List Int} {v : Int} {i : Nat} (h : i < ls.length) : (ls ++ [v]).getD i 0 = ls.getD i 0 := by
  rw [List.getD_eq_getElem?_getD, List.getD_eq_getElem?_getD, List.getElem?_append_left h]
theorem getD_e {ls : List Int} {v : Int} : (ls ++ [v]).getD ls.length 0 = v := by
  rw [List.getD_eq_getElem?_getD, List.getElem?_append_right (Nat.le_refl _), Nat.sub_self]; rfl
theorem Ag.snoc {s : Mem} {p : Nat} {ls : List Int} {v : Int} (h : Ag s p ls) : Ag (wI s p ls.length v) p (ls ++ [v]) := fun i hi => by
  rw [List.length_append] at hi
  by_cases e : i = ls.length
  · rw [e, rI_same, getD_e]
  · have h2 : i < ls.length := by simp only [List.length_singleton] at hi; omega
    rw [rI_other _ _ _ _ (by omega), getD_l h2]
    exact h i h2
/-- the bytes that were fed -/
def XTp (s : Mem) (tp : List Int) : Prop := rI s 1 1 = (tp.length : Int) ∧ tp.length ≤ 1600 ∧ Ag s 2 tp
def MTp (s : Mem) (tp : List Int) : Prop := rI s 84 1 = (tp.length : Int) ∧ tp.length ≤ 1600 ∧ Ag s 85 tp
def Bys (ls : List Int) : Prop := ∀ i, i < ls.length → 0 ≤ ls.getD i 0 ∧ ls.getD i 0 ≤ 255
def oc (a c : Int) : Int := iAnd (iShr a c) 255
theorem and255 (x : Int32) : 0 ≤ (x &&& Int32.ofInt 255).toInt ∧ (x &&& Int32.ofInt 255).toInt ≤ 255 := by
  have e : (x &&& Int32.ofInt 255).toInt = (((x.toBitVec &&& 255#32).toNat : Nat) : Int) := by
    show (x &&& Int32.ofInt 255).toBitVec.toInt = _
    rw [Int32.toBitVec_and, show (Int32.ofInt 255).toBitVec = 255#32 by decide, BitVec.toInt_eq_toNat_cond, if_pos]
    have : (x.toBitVec &&& 255#32).toNat ≤ 255 := by rw [BitVec.toNat_and]; exact Nat.and_le_right
    omega
  have : (x.toBitVec &&& 255#32).toNat ≤ 255 := by rw [BitVec.toNat_and]; exact Nat.and_le_right
  omega
theorem oc_r (a c : Int) : 0 ≤ oc a c ∧ oc a c ≤ 255 := and255 _
theorem bit255 : ∀ i : Fin 32, 8 ≤ i.val → (255#32).getLsbD i.val = false := by decide
theorem ush_and (x : BitVec 32) {c : Nat} (h : c ≤ 24) : (x >>> c) &&& 255#32 = (x.sshiftRight c) &&& 255#32 := by
  apply BitVec.eq_of_getLsbD_eq
  intro i hi
  rw [BitVec.getLsbD_and, BitVec.getLsbD_and]
  by_cases h8 : 8 ≤ i
  · rw [bit255 ⟨i, hi⟩ h8, Bool.and_false, Bool.and_false]
  · rw [BitVec.getLsbD_ushiftRight, BitVec.getLsbD_sshiftRight, if_pos (by omega)]
    simp (disch := omega) only [show decide (32 ≤ i) = false from decide_eq_false (by omega), Bool.not_false, Bool.true_and]
theorem ush_c (a : Int) {c : Nat} (hc : c = 24 ∨ c = 16 ∨ c = 8 ∨ c = 0) : iAnd (iUshr a (c : Int)) 255 = oc a (c : Int) := by
  have e : ∀ y z : Int32, y.toBitVec &&& 255#32 = z.toBitVec &&& 255#32 → iAnd y.toInt 255 = iAnd z.toInt 255 := fun y z h => by
    unfold iAnd
    rw [o32, o32]
    show (y &&& Int32.ofInt 255).toBitVec.toInt = (z &&& Int32.ofInt 255).toBitVec.toInt
    rw [Int32.toBitVec_and, Int32.toBitVec_and, show (Int32.ofInt 255).toBitVec = 255#32 by decide, h]
  have key : ∀ (n : Nat), n ≤ 24 → ∀ b : Int, ((Int32.ofInt b).toUInt32 &&& Int32.toUInt32 31).toBitVec % 32 = BitVec.ofNat 32 n → (Int32.ofInt b &&& 31).toBitVec.smod 32 = BitVec.ofNat 32 n → iAnd (iUshr a b) 255 = oc a b := fun n hn b h1 h2 => by
    unfold iUshr oc iShr
    apply e
    rw [Int32.toBitVec_shiftRight, h2]
    show ((Int32.ofInt a).toUInt32 >>> ((Int32.ofInt b).toUInt32 &&& Int32.toUInt32 31)).toBitVec &&& 255#32 = _
    rw [UInt32.toBitVec_shiftRight, h1]
    have hm : (BitVec.ofNat 32 n).toNat = n := by rw [BitVec.toNat_ofNat]; omega
    show ((Int32.ofInt a).toBitVec >>> (BitVec.ofNat 32 n)) &&& 255#32 = ((Int32.ofInt a).toBitVec.sshiftRight (BitVec.ofNat 32 n).toNat) &&& 255#32
    rw [BitVec.ushiftRight_eq', hm]
    exact ush_and _ hn
  rcases hc with rfl | rfl | rfl | rfl
  · exact key 24 (by omega) _ (by decide) (by decide)
  · exact key 16 (by omega) _ (by decide) (by decide)
  · exact key 8 (by omega) _ (by decide) (by decide)
  · exact key 0 (by omega) _ (by decide) (by decide)
def fd (a : Int) : List Int := [oc a 24, oc a 16, oc a 8, oc a 0]
def fds (a b c d e : Int) : List Int := fd a ++ fd b ++ fd c ++ fd d ++ fd e
theorem Bys.app {a b : List Int} (ha : Bys a) (hb : Bys b) : Bys (a ++ b) := fun i hi => by
  rw [List.getD_eq_getElem?_getD]
  by_cases h : i < a.length
  · rw [List.getElem?_append_left h, ← List.getD_eq_getElem?_getD]; exact ha i h
  · rw [List.getElem?_append_right (by omega), ← List.getD_eq_getElem?_getD]
    rw [List.length_append] at hi
    exact hb _ (by omega)
theorem Bys_fd (a : Int) : Bys (fd a) := fun i hi => by
  have h : i = 0 ∨ i = 1 ∨ i = 2 ∨ i = 3 := by have : i < 4 := hi; omega
  rcases h with rfl | rfl | rfl | rfl <;> exact oc_r _ _
theorem Bys_fds (a b c d e : Int) : Bys (fds a b c d e) := ((((Bys_fd a).app (Bys_fd b)).app (Bys_fd c)).app (Bys_fd d)).app (Bys_fd e)
theorem XTp.snoc {s : Mem} {tp : List Int} {v : Int} (h : XTp s tp) (hl : tp.length < 1600) : XTp (wI (wI s 2 tp.length v) 1 1 (w32 ((tp.length : Int) + 1))) (tp ++ [v]) := by
  refine ⟨?_, ?_, fun i hi => ?_⟩
  · rw [rI_same, w32_i (by omega) (by omega), List.length_append]; rfl
  · rw [List.length_append]; exact hl
  · rw [rI_other _ _ _ _ (by omega)]
    exact h.2.2.snoc i hi
theorem MTp.snoc {s : Mem} {tp : List Int} {v : Int} (h : MTp s tp) (hl : tp.length < 1600) : MTp (wI (wI s 85 tp.length v) 84 1 (w32 ((tp.length : Int) + 1))) (tp ++ [v]) := by
  refine ⟨?_, ?_, fun i hi => ?_⟩
  · rw [rI_same, w32_i (by omega) (by omega), List.length_append]; rfl
  · rw [List.length_append]; exact hl
  · rw [rI_other _ _ _ _ (by omega)]
    exact h.2.2.snoc i hi
abbrev PTp : Nat → Nat → Prop := fun a k => a = 1 ∧ k = 1 ∨ a = 2
abbrev PTq : Nat → Nat → Prop := fun a k => a = 84 ∧ k = 1 ∨ a = 85
theorem x_add1 (D : Nat) {s : Mem} {tp : List Int} (h : XTp s tp) (hl : tp.length < 1600) (a : Int) {c : Nat} (hc : c = 24 ∨ c = 16 ∨ c = 8 ∨ c = 0) {c2 : Int} (h2 : w32 ((c : Int) + (-8)) = c2) : ∃ s1, L_Tape_add_3 D a (c : Int) s = L_Tape_add_3 D a c2 s1 ∧ Fr PTp s s1 ∧ XTp s1 (tp ++ [oc a (c : Int)]) := by
  rw [e_Tape_add_3, h.1, if_neg (by omega), if_pos (by omega), inB_n hl, Int.toNat_natCast, ush_c a hc, h2]
  exact ⟨_, rfl, (Fr.rf.w (Or.inr rfl)).w (Or.inl ⟨rfl, rfl⟩), h.snoc hl⟩
theorem x_tadd (D : Nat) {s : Mem} {tp : List Int} (h : XTp s tp) (hl : tp.length + 4 ≤ 1600) (a : Int) : ∃ s1, f_Tape_add (D + 1) a s = some (0, s1) ∧ Fr PTp s s1 ∧ XTp s1 (tp ++ fd a) := by
  obtain ⟨s1, e1, f1, t1⟩ := x_add1 D h (by omega) a (c := 24) (by omega) (c2 := (16 : Nat)) (by decide)
  obtain ⟨s2, e2, f2, t2⟩ := x_add1 D t1 (by rw [List.length_append]; simp only [List.length_singleton]; omega) a (c := 16) (by omega) (c2 := (8 : Nat)) (by decide)
  obtain ⟨s3, e3, f3, t3⟩ := x_add1 D t2 (by rw [List.length_append, List.length_append]; simp only [List.length_singleton]; omega) a (c := 8) (by omega) (c2 := (0 : Nat)) (by decide)
  obtain ⟨s4, e4, f4, t4⟩ := x_add1 D t3 (by rw [List.length_append, List.length_append, List.length_append]; simp only [List.length_singleton]; omega) a (c := 0) (by omega) (c2 := -8) (by decide)
  rw [e_Tape_add]
  refine ⟨s4, ?_, ((f1.tr f2).tr f3).tr f4, ?_⟩
  · refine e1.trans (e2.trans (e3.trans (e4.trans ?_)))
    rw [e_Tape_add_3, if_pos (by omega)]
  · have : tp ++ fd a = (((tp ++ [oc a ((24 : Nat) : Int)]) ++ [oc a ((16 : Nat) : Int)]) ++ [oc a ((8 : Nat) : Int)]) ++ [oc a ((0 : Nat) : Int)] := by
      simp only [List.append_assoc]; rfl
    rw [this]; exact t4
theorem x_feed (D : Nat) {s : Mem} {tp : List Int} (h : XTp s tp) (a b c d e : Int) : (tp.length + 20 ≤ 1600 → ∃ s1, f_X_feed (D + 2) a b c d e s = some (((tp.length + 20 : Nat) : Int), s1) ∧ Fr PTp s s1 ∧ XTp s1 (tp ++ fds a b c d e)) ∧ (¬ tp.length + 20 ≤ 1600 → f_X_feed (D + 2) a b c d e s = some (-1, wI s 83 0 (w32 (rI s 83 0 + 1)))) := by
  have hl := h.2.1
  have l4 : ∀ v, (fd v).length = 4 := fun _ => rfl
  rw [e_X_feed, h.1, w32_i (by omega) (by omega)]
  constructor
  · intro h20
    obtain ⟨s1, e1, f1, t1⟩ := x_tadd D h (by omega) a
    obtain ⟨s2, e2, f2, t2⟩ := x_tadd D t1 (by simp only [List.length_append, l4]; omega) b
    obtain ⟨s3, e3, f3, t3⟩ := x_tadd D t2 (by simp only [List.length_append, l4]; omega) c
    obtain ⟨s4, e4, f4, t4⟩ := x_tadd D t3 (by simp only [List.length_append, l4]; omega) d
    obtain ⟨s5, e5, f5, t5⟩ := x_tadd D t4 (by simp only [List.length_append, l4]; omega) e
    rw [if_neg (by omega), e1, Option.bind_some]
    simp only []
    rw [e2, Option.bind_some]
    simp only []
    rw [e3, Option.bind_some]
    simp only []
    rw [e4, Option.bind_some]
    simp only []
    rw [e5, Option.bind_some]
    simp only []
    refine ⟨s5, ?_, (((f1.tr f2).tr f3).tr f4).tr f5, ?_⟩
    · rw [t5.1]; simp only [List.length_append, l4]
    · unfold fds
      simp only [List.append_assoc] at t5 ⊢
      exact t5
  · intro h20
    have href : f_X_refuse (D + 1) 0 s = some (0, wI s 83 0 (w32 (rI s 83 0 + 1))) := x_ref D s (k := 0) (by omega)
    rw [if_pos (by omega), href, Option.bind_some]
def bt (b c e f g : Int) (h : Nat) : Int := oc (if h < 4 then b else if h < 8 then c else if h < 12 then e else if h < 16 then f else g) ((8 * (3 - h % 4) : Nat) : Int)
def bl (b c e f g : Int) : Nat → Nat → List Int
  | 0, _ => []
  | n + 1, h => bt b c e f g h :: bl b c e f g n (h + 1)
theorem bl_20 (b c e f g : Int) : bl b c e f g 20 0 = fds b c e f g := rfl
theorem m_feed81 (D : Nat) {s : Mem} {tp : List Int} (h : MTp s tp) (hl : tp.length < 1600) (b c e f g i : Int) {k : Nat} (hk : k < 20) : L_M_feed_81 D b c e f g (k : Int) i s = L_M_feed_28 D b c e f g ((k + 1 : Nat) : Int) (wI (wI s 85 tp.length (oc i ((8 * (3 - k % 4) : Nat) : Int))) 84 1 (w32 ((tp.length : Int) + 1))) := by
  have e1 : w32 (8 * (w32 (3 - (iRem (k : Int) 4)))) = ((8 * (3 - k % 4) : Nat) : Int) := by
    rw [iRem_n ⟨by omega, by omega⟩ ⟨by omega, by omega⟩, Int.tmod_eq_emod_of_nonneg (by omega), w32_i (z := 3 - (k : Int) % 4) (by omega) (by omega), w32_i (by omega) (by omega)]
    omega
  rw [e_M_feed_81, h.1, inB_n hl, Int.toNat_natCast, w32_s (by omega), e1]
  rfl
theorem m_feed28 (D : Nat) (b c e f g : Int) : ∀ (n k : Nat) (s : Mem) (tp : List Int), k + n = 20 → tp.length + n ≤ 1600 → MTp s tp → ∃ s1, L_M_feed_28 D b c e f g (k : Int) s = some (((tp.length + n : Nat) : Int), s1) ∧ Fr PTq s s1 ∧ MTp s1 (tp ++ bl b c e f g n k)
  | 0, k, s, tp, hk, hl, h => by
    rw [e_M_feed_28, if_neg (by omega), h.1]
    refine ⟨s, rfl, Fr.rf, ?_⟩
    rw [show bl b c e f g 0 k = [] from rfl, List.append_nil]
    exact h
  | n + 1, k, s, tp, hk, hl, h => by
    have h81 : ∀ i, L_M_feed_81 D b c e f g (k : Int) i s = L_M_feed_28 D b c e f g ((k + 1 : Nat) : Int) (wI (wI s 85 tp.length (oc i ((8 * (3 - k % 4) : Nat) : Int))) 84 1 (w32 ((tp.length : Int) + 1))) := fun i => m_feed81 D h (by omega) b c e f g i (by omega)
    have e2 : L_M_feed_28 D b c e f g (k : Int) s = L_M_feed_28 D b c e f g ((k + 1 : Nat) : Int) (wI (wI s 85 tp.length (bt b c e f g k)) 84 1 (w32 ((tp.length : Int) + 1))) := by
      rw [e_M_feed_28, if_pos (by omega)]
      unfold bt
      by_cases h1 : k < 4
      · rw [if_pos (by omega), if_pos h1]; exact h81 b
      · rw [if_neg (by omega), if_neg h1]
        by_cases h2 : k < 8
        · rw [if_pos (by omega), if_pos h2]; exact h81 c
        · rw [if_neg (by omega), if_neg h2]
          by_cases h3 : k < 12
          · rw [if_pos (by omega), if_pos h3]; exact h81 e
          · rw [if_neg (by omega), if_neg h3]
            by_cases h4 : k < 16
            · rw [if_pos (by omega), if_pos h4]; exact h81 f
            · rw [if_neg (by omega), if_neg h4]; exact h81 g
    obtain ⟨s1, e3, f3, t3⟩ := m_feed28 D b c e f g n (k + 1) _ _ (by omega) (by rw [List.length_append]; simp only [List.length_singleton]; omega) (h.snoc (v := bt b c e f g k) (by omega))
    rw [e2, e3]
    refine ⟨s1, ?_, ((Fr.rf.w (Or.inr rfl)).w (Or.inl ⟨rfl, rfl⟩)).tr f3, ?_⟩
    · rw [List.length_append]
      simp only [List.length_singleton]
      rw [show tp.length + 1 + n = tp.length + (n + 1) by omega]
    · rw [List.append_assoc] at t3
      exact t3
theorem m_feed (D : Nat) {s : Mem} {tp : List Int} (h : MTp s tp) (a b c d e : Int) : (tp.length + 20 ≤ 1600 → ∃ s1, f_M_feed (D + 1) a b c d e s = some (((tp.length + 20 : Nat) : Int), s1) ∧ Fr PTq s s1 ∧ MTp s1 (tp ++ fds a b c d e)) ∧ (¬ tp.length + 20 ≤ 1600 → f_M_feed (D + 1) a b c d e s = some (-1, wI s 86 0 (w32 (rI s 86 0 + 1)))) := by
  have hl := h.2.1
  rw [e_M_feed, h.1, w32_i (by omega) (by omega)]
  constructor
  · intro h20
    rw [if_neg (by omega), ← bl_20]
    exact m_feed28 D a b c d e 20 0 s tp rfl h20 h
  · intro h20
    rw [if_pos (by omega)]
theorem Ag.take {s : Mem} {p n : Nat} {ls : List Int} (h : Ag s p ls) : Ag s p (ls.take n) := fun i hi => by
  rw [List.length_take] at hi
  rw [List.getD_eq_getElem?_getD, List.getElem?_take_of_lt (by omega), ← List.getD_eq_getElem?_getD]
  exact h i (by omega)
theorem Bys.take {n : Nat} {ls : List Int} (h : Bys ls) : Bys (ls.take n) := fun i hi => by
  rw [List.length_take] at hi
  rw [List.getD_eq_getElem?_getD, List.getElem?_take_of_lt (by omega), ← List.getD_eq_getElem?_getD]
  exact h i (by omega)
def cEnd (tp : List Int) (a : Int) : Prop := 0 ≤ a ∧ a ≤ (tp.length : Int)
theorem len_tk {tp : List Int} {a : Int} (h : cEnd tp a) : ((tp.take a.toNat).length : Int) = a := by
  rw [List.length_take]; unfold cEnd at h; omega
theorem x_end (D : Nat) {s : Mem} {tp : List Int} (h : XTp s tp) (a : Int) : (cEnd tp a → ∃ s1, f_X_end (D + 2) a s = some (1, s1) ∧ Fr PTp s s1 ∧ XTp s1 (tp.take a.toNat)) ∧ (¬ cEnd tp a → f_X_end (D + 2) a s = some (0, wI s 83 0 (w32 (rI s 83 0 + 1)))) := by
  have hl := h.2.1
  have href : f_X_refuse (D + 1) 0 s = some (0, wI s 83 0 (w32 (rI s 83 0 + 1))) := x_ref D s (k := 0) (by omega)
  rw [e_X_end, h.1]
  constructor
  · intro hc
    have e := len_tk hc
    unfold cEnd at hc
    rw [if_neg (by omega), if_neg (by omega)]
    refine ⟨_, rfl, Fr.rf.w (Or.inl ⟨rfl, rfl⟩), ?_, ?_, ?_⟩
    · rw [rI_same]; exact e.symm
    · omega
    · exact h.2.2.take.fr (P := fun a k => a = 1 ∧ k = 1) (Fr.rf.w ⟨rfl, rfl⟩) (fun i _ => by omega)
  · intro hc
    unfold cEnd at hc
    by_cases a0 : a < 0
    · rw [if_pos a0, href, Option.bind_some]
    · rw [if_neg a0, if_pos (by omega), href, Option.bind_some]
theorem m_end (D : Nat) {s : Mem} {tp : List Int} (h : MTp s tp) (a : Int) : (cEnd tp a → ∃ s1, f_M_end (D + 1) a s = some (1, s1) ∧ Fr PTq s s1 ∧ MTp s1 (tp.take a.toNat)) ∧ (¬ cEnd tp a → f_M_end (D + 1) a s = some (0, wI s 86 0 (w32 (rI s 86 0 + 1)))) := by
  have hl := h.2.1
  rw [e_M_end, h.1]
  constructor
  · intro hc
    have e := len_tk hc
    unfold cEnd at hc
    rw [if_neg (by omega), if_neg (by omega)]
    refine ⟨_, rfl, Fr.rf.w (Or.inl ⟨rfl, rfl⟩), ?_, ?_, ?_⟩
    · rw [rI_same]; exact e.symm
    · omega
    · exact h.2.2.take.fr (P := fun a k => a = 84 ∧ k = 1) (Fr.rf.w ⟨rfl, rfl⟩) (fun i _ => by omega)
  · intro hc
    unfold cEnd at hc
    by_cases a0 : a < 0
    · rw [if_pos a0, e_M_end_12]
    · rw [if_neg a0, if_pos (by omega), e_M_end_12]
/-- status, fault, octet -/
theorem x_status (D : Nat) (s : Mem) (a : Int) : f_X_status (D + 1) a s = some (if 0 ≤ a ∧ a ≤ 5 then rI s 83 a.toNat else -1, s) := by
  rw [e_X_status]
  by_cases h0 : a < 0
  · rw [if_pos h0, if_neg (by omega)]
  · rw [if_neg h0]
    by_cases h1 : a < 6
    · rw [if_pos h1, if_pos (by omega), inB_z (by omega) (by omega)]
    · rw [if_neg h1, if_neg (by omega)]
theorem m_status (D : Nat) (s : Mem) (a : Int) : f_M_status (D + 2) a s = some (if 0 ≤ a ∧ a ≤ 5 then rI s 86 a.toNat else -1, s) := by
  rw [e_M_status, m_isIn, Option.bind_some]
  simp only []
  by_cases h : 0 ≤ a ∧ a ≤ 5
  · rw [if_pos h, if_neg (by omega), if_pos h, inB_z (by omega) (by omega)]
  · rw [if_neg h, if_pos rfl, if_neg h]
theorem x_fault (D : Nat) (s : Mem) (a : Int) : f_X_fault (D + 1) a s = some (if a = 0 then rI s 0 13 else if a = 1 then rI s 0 14 else -1, s) := by
  rw [e_X_fault]
  repeat' split
  all_goals rfl
theorem m_fault (D : Nat) (s : Mem) (a : Int) : f_M_fault (D + 1) a s = some (if a = 0 then rI s 84 7 else if a = 1 then rI s 84 8 else -1, s) := by
  rw [e_M_fault]
  repeat' split
  all_goals rfl
def XPi (s : Mem) (pc : List Int) : Prop := rI s 0 11 = (pc.length : Int) ∧ pc.length ≤ 26 ∧ Ag s 82 pc
def MPi (s : Mem) (pc : List Int) : Prop := rI s 84 109 = (pc.length : Int) ∧ pc.length ≤ 26 ∧ Ag s 158 pc
def sOctet (pc : List Int) (a : Int) : Int := if 0 ≤ a ∧ a < (pc.length : Int) then pc.getD a.toNat 0 else -1
theorem x_octet (D : Nat) {s : Mem} {pc : List Int} (h : XPi s pc) (a : Int) : f_X_octet (D + 1) a s = some (sOctet pc a, s) := by
  have hl := h.2.1
  unfold sOctet
  rw [e_X_octet, h.1]
  by_cases h0 : a < 0
  · rw [if_pos h0, if_neg (by omega)]
  · rw [if_neg h0]
    by_cases h1 : a < (pc.length : Int)
    · rw [if_pos h1, if_pos (by omega), if_pos (by omega), inB_z (by omega) (by omega), h.2.2 _ (by omega)]
    · rw [if_neg h1, if_neg (by omega)]
theorem m_octet (D : Nat) {s : Mem} {pc : List Int} (h : MPi s pc) (a : Int) : f_M_octet (D + 1) a s = some (sOctet pc a, s) := by
  have hl := h.2.1
  unfold sOctet
  rw [e_M_octet, h.1]
  by_cases h0 : a < 0
  · rw [if_pos h0, if_neg (by omega)]
  · rw [if_neg h0]
    by_cases h1 : a < (pc.length : Int)
    · rw [if_pos h1, if_pos (by omega), inB_z (by omega) (by omega), h.2.2 _ (by omega)]
    · rw [if_neg h1, if_neg (by omega)]
/-- seed, undo -/
theorem x_seed (D : Nat) (s : Mem) (a : Int) : f_X_seed (D + 2) a s = if 0 ≤ a then some (1, wI s 0 15 a) else some (0, wI s 83 5 (w32 (rI s 83 5 + 1))) := by
  have href : f_X_refuse (D + 1) 5 s = some (0, wI s 83 5 (w32 (rI s 83 5 + 1))) := x_ref D s (k := 5) (by omega)
  rw [e_X_seed]
  by_cases h : a < 0
  · rw [if_pos h, href, Option.bind_some, if_neg (by omega)]
  · rw [if_neg h, if_pos (by omega)]
theorem m_seed (D : Nat) (s : Mem) (a : Int) : f_M_seed (D + 1) a s = if 0 ≤ a then some (1, wI s 84 72 a) else some (0, wI s 86 5 (w32 (rI s 86 5 + 1))) := by
  rw [e_M_seed]
  by_cases h : a < 0
  · rw [if_pos h, if_neg (by omega)]
  · rw [if_neg h, if_pos (by omega)]
section UND
variable {T : Tab} {w : Nat → Int}
theorem x_undo0 (D : Nat) {s : Mem} (h : rI s 44 2 = 0) : f_X_undo (D + 2) s = some (0, wI s 83 4 (w32 (rI s 83 4 + 1))) := by
  have href : f_X_refuse (D + 1) 4 s = some (0, wI s 83 4 (w32 (rI s 83 4 + 1))) := x_ref D s (k := 4) (by omega)
  rw [e_X_undo, if_pos h, href, Option.bind_some]
theorem x_undoU (D : Nat) {s : Mem} {nx : Nat} {u : (Nat → Int) × List Int} {U : UL} (hx : XM s T w) (ht : Tf T) (hu : Wf T u.1) (hU : XU s T nx (u :: U)) : ∃ s1, f_X_undo (D + 3) s = some (1, s1) ∧ XAct s s1 T u.1 u.2 ((nx + 19) % 20) U := by
  have h2 : rI s 44 2 = ((U.length + 1 : Nat) : Int) := hU.2.2.1
  obtain ⟨s1, e1, f1, x1, k1, u1⟩ := x_takeBack D hx ht hu hU
  have f2 : Fr (fun a _ => a = 79) s1 (wI (wI s1 79 1 0) 79 2 0) := (Fr.rf.w (P := fun a _ => a = 79) rfl).w rfl
  rw [e_X_undo, h2, if_neg (by omega), e1, Option.bind_some]
  simp only []
  rw [e_Pl_forget, Option.bind_some]
  refine ⟨_, rfl, (f1.mo (fun a k q => by unfold PTb at q; omega)).tr (f2.mo (fun a k q => by omega)), x1.fr f2 (fun a k q => by omega), k1.fr f2 (fun a k q => by omega), u1.fr f2 (fun a k q => by omega), by rw [rI_other _ _ _ _ (by omega), rI_same], rI_same _ _ _ _⟩
theorem m_undo0 (D : Nat) {s : Mem} (h : rI s 84 70 = 0) : f_M_undo (D + 2) s = some (0, wI s 86 4 (w32 (rI s 86 4 + 1))) := by
  rw [e_M_undo, if_pos h]
theorem m_undoA (D : Nat) {s : Mem} {nx : Nat} {u : (Nat → Int) × List Int} {U : UL} (hm : MM s T w) (hb : bsOk s) (hU : MU s nx (u :: U)) : ∃ s1, f_M_undo (D + 1) s = some (1, s1) ∧ MAct s s1 T u.1 u.2 ((nx + 19) % 20) U := by
  obtain ⟨s1, e1, f1, w1, k1, u1⟩ := m_undoU D hU
  obtain ⟨h1, h2, h3, h4, h5⟩ := hm
  exact ⟨s1, e1, f1.mo (fun a i q => by unfold PUn at q; unfold PMa; omega), ⟨h1.fr f1 (fun a i q => by unfold PUn at q; omega), w1, (f1.i (by unfold PUn; omega)).trans h3, (f1.i (by unfold PUn; omega)).trans h4, (f1.i (by unfold PUn; omega)).trans h5⟩, k1, u1, hb.fr f1 (by unfold PUn; omega)⟩
end UND
