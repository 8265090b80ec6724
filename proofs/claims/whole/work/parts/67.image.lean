/-! the image, on both sides -/
def ckF : Int → List Int → Int
  | c, [] => c
  | c, b :: ls => ckF ((3 * c + b) % 251) ls
theorem ckF_snoc : ∀ (ls : List Int) (c b : Int), ckF c (ls ++ [b]) = (3 * ckF c ls + b) % 251
  | [], _, _ => rfl
  | x :: ls, c, b => ckF_snoc ls ((3 * c + x) % 251) b
theorem ckF_r : ∀ (ls : List Int) (c : Int), 0 ≤ c → c ≤ 250 → 0 ≤ ckF c ls ∧ ckF c ls ≤ 250
  | [], c, h0, h1 => ⟨h0, h1⟩
  | x :: ls, c, _, _ => ckF_r ls ((3 * c + x) % 251) (by omega) (by omega)
theorem take_s {ls : List Int} {e : Nat} (h : e < ls.length) : ls.take (e + 1) = ls.take e ++ [ls.getD e 0] := by
  rw [List.take_succ, List.getD_eq_getElem?_getD, List.getElem?_eq_getElem h]
  rfl
theorem ck_step {ls : List Int} {e : Nat} (h : e < ls.length) (hb : Bys ls) : iRem (w32 (w32 (3 * ckF 223 (ls.take e)) + ls.getD e 0)) 251 = ckF 223 (ls.take (e + 1)) := by
  have h1 := ckF_r (ls.take e) 223 (by omega) (by omega)
  have h2 := hb e h
  rw [take_s h, ckF_snoc, w32_i (z := 3 * ckF 223 (ls.take e)) (by omega) (by omega), w32_i (by omega) (by omega), iRem_n ⟨by omega, by omega⟩ ⟨by omega, by omega⟩, Int.tmod_eq_emod_of_nonneg (by omega)]
theorem x_ck82 (D : Nat) {s : Mem} {ls : List Int} (hb : Bys ls) (hl : ls.length ≤ 26) (ha : Ag s 82 ls) : ∀ n e : Nat, e + n = ls.length → L_X_checkByte_82_6 D (ls.length : Int) (ckF 223 (ls.take e)) (e : Int) s = some (ckF 223 ls, s)
  | 0, e, he => by
    rw [e_X_checkByte_82_6, if_neg (by omega), List.take_of_length_le (by omega)]
  | n + 1, e, he => by
    rw [e_X_checkByte_82_6, if_pos (by omega), if_pos (by omega), inB_n (by omega), Int.toNat_natCast, ha e (by omega), ck_step (by omega) hb, w32_s (by omega)]
    exact x_ck82 D hb hl ha n (e + 1) (by omega)
theorem x_ck2 (D : Nat) {s : Mem} {ls : List Int} (hb : Bys ls) (hl : ls.length ≤ 1600) (ha : Ag s 2 ls) : ∀ n e : Nat, e + n = ls.length → L_X_checkByte_2_6 D (ls.length : Int) (ckF 223 (ls.take e)) (e : Int) s = some (ckF 223 ls, s)
  | 0, e, he => by
    rw [e_X_checkByte_2_6, if_neg (by omega), List.take_of_length_le (by omega)]
  | n + 1, e, he => by
    rw [e_X_checkByte_2_6, if_pos (by omega), if_pos (by omega), inB_n (by omega), Int.toNat_natCast, ha e (by omega), ck_step (by omega) hb, w32_s (by omega)]
    exact x_ck2 D hb hl ha n (e + 1) (by omega)
theorem m_ck158 (D : Nat) {s : Mem} {ls : List Int} (hb : Bys ls) (hl : ls.length ≤ 26) (ha : Ag s 158 ls) : ∀ n e : Nat, e + n = ls.length → L_M_checked_158_6 D (ls.length : Int) (ckF 223 (ls.take e)) (e : Int) s = some (ckF 223 ls, s)
  | 0, e, he => by
    rw [e_M_checked_158_6, if_neg (by omega), List.take_of_length_le (by omega)]
  | n + 1, e, he => by
    rw [e_M_checked_158_6, if_pos (by omega), inB_n (by omega), Int.toNat_natCast, ha e (by omega), ck_step (by omega) hb, w32_s (by omega)]
    exact m_ck158 D hb hl ha n (e + 1) (by omega)
theorem m_ck85 (D : Nat) {s : Mem} {ls : List Int} (hb : Bys ls) (hl : ls.length ≤ 1600) (ha : Ag s 85 ls) : ∀ n e : Nat, e + n = ls.length → L_M_checked_85_6 D (ls.length : Int) (ckF 223 (ls.take e)) (e : Int) s = some (ckF 223 ls, s)
  | 0, e, he => by
    rw [e_M_checked_85_6, if_neg (by omega), List.take_of_length_le (by omega)]
  | n + 1, e, he => by
    rw [e_M_checked_85_6, if_pos (by omega), inB_n (by omega), Int.toNat_natCast, ha e (by omega), ck_step (by omega) hb, w32_s (by omega)]
    exact m_ck85 D hb hl ha n (e + 1) (by omega)
/-- the image's bytes -/
def imb (T : Tab) (w : Nat → Int) (i : Nat) : Int := if i = 0 then w 0 / 256 else if i = 1 then w 0 % 256 else if i < 2 + tN T then w (i - 1) else w (8 + i - tN T)
def pim (T : Tab) (w : Nat → Int) : Nat → List Int
  | 0 => []
  | j + 1 => pim T w j ++ [imb T w j]
theorem pim_l (T : Tab) (w : Nat → Int) : ∀ j, (pim T w j).length = j
  | 0 => rfl
  | j + 1 => by
    show (pim T w j ++ [imb T w j]).length = j + 1
    rw [List.length_append, pim_l T w j]; rfl
theorem pim_g (T : Tab) (w : Nat → Int) : ∀ j i, i < j → (pim T w j).getD i 0 = imb T w i
  | j + 1, i, h => by
    show (pim T w j ++ [imb T w j]).getD i 0 = _
    by_cases e : i = j
    · have := getD_e (ls := pim T w j) (v := imb T w j)
      rw [pim_l] at this
      rw [e]; exact this
    · rw [getD_l (by rw [pim_l]; omega)]
      exact pim_g T w j i (by omega)
def sImg (T : Tab) (w : Nat → Int) : List Int := pim T w (2 + tN T + 2 * tG T) ++ [ckF 223 (pim T w (2 + tN T + 2 * tG T))]
section IMAGE
variable {T : Tab} {w : Nat → Int}
theorem imb_r (ht : Tf T) (hw : Wf T w) (h9 : w 0 ≤ 999) {i : Nat} (h : i < 2 + tN T + 2 * tG T) : 0 ≤ imb T w i ∧ imb T w i ≤ 255 := by
  have hn := ht.2.1
  obtain ⟨h1, h2, h3, -⟩ := hw
  unfold imb
  split
  · omega
  · split
    · omega
    · split
      · have := h2 (i - 2) (by omega)
        rw [show 1 + (i - 2) = i - 1 by omega] at this
        omega
      · have := h3 ((i - 2 - tN T) / 2) (by omega)
        by_cases e : (i - 2 - tN T) % 2 = 0
        · rw [show 10 + 2 * ((i - 2 - tN T) / 2) = 8 + i - tN T by omega] at this
          omega
        · rw [show 11 + 2 * ((i - 2 - tN T) / 2) = 8 + i - tN T by omega] at this
          omega
theorem Bys_pim (ht : Tf T) (hw : Wf T w) (h9 : w 0 ≤ 999) {j : Nat} (h : j ≤ 2 + tN T + 2 * tG T) : Bys (pim T w j) := fun i hi => by
  rw [pim_l] at hi
  rw [pim_g T w j i hi]
  exact imb_r ht hw h9 (by omega)
theorem Ag.pim {s : Mem} {p j : Nat} (h : Ag s p (pim T w j)) : Ag (wI s p j (imb T w j)) p (pim T w (j + 1)) := by
  have := h.snoc (v := imb T w j)
  rw [pim_l] at this
  exact this
theorem x_paint (D : Nat) (s : Mem) {j : Nat} (h : j < 26) (v : Int) : f_X_paint (D + 1) (j : Int) v s = some (((j + 1 : Nat) : Int), wI s 82 j v) := by
  rw [e_X_paint, if_neg (by omega), if_pos (by omega), inB_n h, Int.toNat_natCast, w32_s (by omega)]
theorem x_image35 (D : Nat) (ht : Tf T) : ∀ (n q : Nat) (s : Mem), q + n = tN T → XM s T w → Ag s 82 (pim T w (2 + q)) → ∃ s1, L_X_image_35 (D + 1) ((2 + q : Nat) : Int) (q : Int) s = L_X_image_71 (D + 1) ((2 + tN T : Nat) : Int) 0 s1 ∧ Fr (fun a _ => a = 82) s s1 ∧ Ag s1 82 (pim T w (2 + tN T))
  | 0, q, s, hq, hx, ha => by
    have en := hx.1.n
    rw [hx.2] at en
    rw [e_X_image_35, en, if_neg (by omega)]
    have e : q = tN T := by omega
    subst e
    exact ⟨s, rfl, Fr.rf, ha⟩
  | n + 1, q, s, hq, hx, ha => by
    have hn := ht.2.1
    have en := hx.1.n
    rw [hx.2] at en
    have hh : iAnd (iShr (rI s 28 2) (q : Int)) 1 = w (1 + q) := x_hoop hx.1 (by omega) (by omega)
    have e2 : imb T w (2 + q) = w (1 + q) := by
      unfold imb
      rw [if_neg (by omega), if_neg (by omega), if_pos (by omega), show 2 + q - 1 = 1 + q by omega]
    have f1 : Fr (fun a _ => a = 82) s (wI s 82 (2 + q) (w (1 + q))) := Fr.rf.w (P := fun a _ => a = 82) rfl
    rw [e_X_image_35, en, if_pos (by omega), hh, x_paint D s (by omega), Option.bind_some, w32_s (by omega)]
    simp only []
    have a1 := ha.pim
    rw [e2] at a1
    obtain ⟨s1, e1, f2, a2⟩ := x_image35 D ht n (q + 1) _ (by omega) (hx.fr f1 (fun a k q => by omega)) a1
    exact ⟨s1, e1, f1.tr f2, a2⟩
theorem x_image71 (D : Nat) (ht : Tf T) (hw : Wf T w) (h9 : w 0 ≤ 999) : ∀ (n k : Nat) (s : Mem), k + n = tG T → XM s T w → Ag s 82 (pim T w (2 + tN T + 2 * k)) → ∃ s1, L_X_image_71 (D + 1) ((2 + tN T + 2 * k : Nat) : Int) (k : Int) s = some (((3 + tN T + 2 * tG T : Nat) : Int), s1) ∧ Fr (fun a k => a = 82 ∨ a = 0 ∧ k = 11) s s1 ∧ XPi s1 (sImg T w)
  | 0, k, s, hk, hx, ha => by
    have hn := ht.2.1
    have hg := ht.2.2.1
    have eg := hx.1.g
    rw [hx.2] at eg
    have e : k = tG T := by omega
    subst e
    have hc := x_ck82 D (s := s) (ls := pim T w (2 + tN T + 2 * tG T)) (Bys_pim ht hw h9 (Nat.le_refl _)) (by rw [pim_l]; omega) ha (2 + tN T + 2 * tG T) 0 (by rw [pim_l, Nat.zero_add])
    rw [pim_l] at hc
    have f1 : Fr (fun a k => a = 82 ∨ a = 0 ∧ k = 11) s (wI s 82 (2 + tN T + 2 * tG T) (ckF 223 (pim T w (2 + tN T + 2 * tG T)))) := Fr.rf.w (Or.inl rfl)
    rw [e_X_image_71, eg, if_neg (by omega), e_X_image_124, e_X_checkByte_82]
    have hc' : L_X_checkByte_82_6 D ((2 + tN T + 2 * tG T : Nat) : Int) 223 0 s = some (ckF 223 (pim T w (2 + tN T + 2 * tG T)), s) := hc
    rw [hc', Option.bind_some]
    simp only []
    rw [x_paint D s (by omega), Option.bind_some]
    simp only []
    have e3 : 2 + tN T + 2 * tG T + 1 = 3 + tN T + 2 * tG T := by omega
    have a2 := ha.snoc (v := ckF 223 (pim T w (2 + tN T + 2 * tG T)))
    rw [pim_l] at a2
    rw [e3]
    refine ⟨_, rfl, f1.w (Or.inr ⟨rfl, rfl⟩), ?_, ?_, fun i hi => ?_⟩
    · rw [rI_same]; unfold sImg; rw [List.length_append, pim_l, ← e3]; rfl
    · unfold sImg; rw [List.length_append, pim_l]; simp only [List.length_singleton]; omega
    · rw [rI_other _ _ _ _ (by omega)]
      exact a2 i hi
  | n + 1, k, s, hk, hx, ha => by
    have hn := ht.2.1
    have hg := ht.2.2.1
    have eg := hx.1.g
    rw [hx.2] at eg
    have h5 : rI s 29 k = w (10 + 2 * k) := hx.1.2.2.2.2.1 k (by omega)
    have h6 : rI s 30 k = w (11 + 2 * k) := hx.1.2.2.2.2.2.1 k (by omega)
    have e1 : imb T w (2 + tN T + 2 * k) = w (10 + 2 * k) := by
      unfold imb
      rw [if_neg (by omega), if_neg (by omega), if_neg (by omega), show 8 + (2 + tN T + 2 * k) - tN T = 10 + 2 * k by omega]
    have e2 : imb T w (2 + tN T + 2 * k + 1) = w (11 + 2 * k) := by
      unfold imb
      rw [if_neg (by omega), if_neg (by omega), if_neg (by omega), show 8 + (2 + tN T + 2 * k + 1) - tN T = 11 + 2 * k by omega]
    have f1 : Fr (fun a _ => a = 82) s (wI (wI s 82 (2 + tN T + 2 * k) (w (10 + 2 * k))) 82 (2 + tN T + 2 * k + 1) (w (11 + 2 * k))) := (Fr.rf.w (P := fun a _ => a = 82) rfl).w rfl
    rw [e_X_image_71, eg, if_pos (by omega), if_pos (by omega), inB_n (by omega), Int.toNat_natCast, h5, x_paint D s (by omega), Option.bind_some, inB_n (by omega)]
    simp only []
    rw [rI_other _ _ _ _ (by omega), h6, x_paint D _ (by omega), Option.bind_some, w32_s (by omega)]
    simp only []
    have a1 := ha.pim
    rw [e1] at a1
    have a2 := a1.pim
    rw [e2] at a2
    obtain ⟨s1, e3, f3, p3⟩ := x_image71 D ht hw h9 n (k + 1) _ (by omega) (hx.fr f1 (fun a k q => by omega)) (by rw [show 2 + tN T + 2 * (k + 1) = 2 + tN T + 2 * k + 1 + 1 by omega]; exact a2)
    rw [show 2 + tN T + 2 * (k + 1) = 2 + tN T + 2 * k + 1 + 1 by omega] at e3
    exact ⟨s1, e3, (f1.mo (fun a k q => Or.inl q)).tr f3, p3⟩
theorem x_image (D : Nat) {s : Mem} (hx : XM s T w) (ht : Tf T) (hw : Wf T w) (h9 : w 0 ≤ 999) : ∃ s1, f_X_image (D + 2) s = some (((3 + tN T + 2 * tG T : Nat) : Int), s1) ∧ Fr (fun a k => a = 82 ∨ a = 0 ∧ k = 11) s s1 ∧ XPi s1 (sImg T w) := by
  obtain ⟨n0, hn0⟩ := Int.eq_ofNat_of_zero_le hw.1.1
  have e1 : iShr (w 0) 8 = imb T w 0 := by
    have := iShr_n (a := n0) (k := 8) (by omega) (by omega)
    rw [show ((8 : Nat) : Int) = 8 from rfl, ← hn0] at this
    rw [this]
    unfold imb
    rw [if_pos rfl]
    omega
  have e2 : iAnd (w 0) 255 = imb T w 1 := by
    have := iAnd_nat (a := n0) (b := 2 ^ 8 - 1) (by omega) (by omega)
    rw [Nat.and_two_pow_sub_one_eq_mod, ← hn0] at this
    rw [show (255 : Int) = ((2 ^ 8 - 1 : Nat) : Int) from rfl, this]
    unfold imb
    rw [if_neg (by omega), if_pos rfl]
    omega
  have h3 : rI s 28 1 = w 0 := hx.1.2.2.1
  have f1 : Fr (fun a _ => a = 82) s (wI (wI s 82 0 (imb T w 0)) 82 1 (imb T w 1)) := (Fr.rf.w (P := fun a _ => a = 82) rfl).w rfl
  have a0 : Ag s 82 (pim T w 0) := fun i hi => absurd hi (Nat.not_lt_zero i)
  obtain ⟨s1, e3, f3, a3⟩ := x_image35 D ht (tN T) 0 _ (by omega) (hx.fr f1 (fun a k q => by omega)) a0.pim.pim
  obtain ⟨s2, e4, f4, p4⟩ := x_image71 D ht hw h9 (tG T) 0 s1 (by omega) ((hx.fr f1 (fun a k q => by omega)).fr f3 (fun a k q => by omega)) a3
  have q1 : f_X_paint (D + 1) 0 (imb T w 0) s = some (((0 + 1 : Nat) : Int), wI s 82 0 (imb T w 0)) := x_paint D s (j := 0) (by omega) _
  rw [e_X_image, h3, e1, q1, Option.bind_some]
  simp only []
  rw [rI_other _ _ _ _ (by omega), h3, e2, x_paint D _ (by omega), Option.bind_some]
  simp only []
  exact ⟨s2, e3.trans e4, ((f1.tr f3).mo (fun a k q => Or.inl q)).tr f4, p4⟩
def MWr (s : Mem) (T : Tab) (w : Nat → Int) (j : Nat) : Prop := rI s 84 109 = (j : Int) ∧ Ag s 158 (pim T w j)
theorem m_writes (D : Nat) {s : Mem} {j : Nat} (h : MWr s T w j) (hj : j < 26) : f_M_writes (D + 1) (imb T w j) s = some (0, wI (wI s 158 j (imb T w j)) 84 109 ((j + 1 : Nat) : Int)) ∧ MWr (wI (wI s 158 j (imb T w j)) 84 109 ((j + 1 : Nat) : Int)) T w (j + 1) ∧ Fr (fun a k => a = 158 ∨ a = 84 ∧ k = 109) s (wI (wI s 158 j (imb T w j)) 84 109 ((j + 1 : Nat) : Int)) := by
  refine ⟨?_, ⟨rI_same _ _ _ _, ?_⟩, (Fr.rf.w (Or.inl rfl)).w (Or.inr ⟨rfl, rfl⟩)⟩
  · rw [e_M_writes, h.1, inB_n hj, Int.toNat_natCast, w32_s (by omega)]
  · exact h.2.pim.fr (P := fun a k => a = 84 ∧ k = 109) (Fr.rf.w ⟨rfl, rfl⟩) (fun i _ => by omega)
abbrev PMi : Nat → Nat → Prop := fun a k => a = 158 ∨ a = 84 ∧ k = 109
theorem m_image35 (D : Nat) (ht : Tf T) : ∀ (n q : Nat) (s : Mem), q + n = tN T → MT s T → MW s w → MWr s T w (2 + q) → ∃ s1, L_M_image_35 (D + 1) (q : Int) s = L_M_image_63 (D + 1) 0 s1 ∧ Fr PMi s s1 ∧ MWr s1 T w (2 + tN T)
  | 0, q, s, hq, hm, hws, ha => by
    rw [e_M_image_35, m_n D hm, Option.bind_some, if_neg (by omega)]
    have e : q = tN T := by omega
    subst e
    exact ⟨s, rfl, Fr.rf, ha⟩
  | n + 1, q, s, hq, hm, hws, ha => by
    have hn := ht.2.1
    have e2 : imb T w (2 + q) = w (1 + q) := by
      unfold imb
      rw [if_neg (by omega), if_neg (by omega), if_pos (by omega), show 2 + q - 1 = 1 + q by omega]
    obtain ⟨e1, a1, f1⟩ := m_writes D ha (by omega)
    rw [e_M_image_35, m_n D hm, Option.bind_some, if_pos (by omega), show w32 (1 + (q : Int)) = ((1 + q : Nat) : Int) by rw [w32_i (by omega) (by omega)]; omega, inB_n (by omega), Int.toNat_natCast]
    simp only []
    rw [hws _ (by omega), ← e2, e1, Option.bind_some, w32_s (by omega)]
    simp only []
    obtain ⟨s1, e3, f3, a3⟩ := m_image35 D ht n (q + 1) _ (by omega) (hm.fr f1 (fun a i q => by omega)) (hws.fr f1 (fun a i q => by omega)) a1
    exact ⟨s1, e3, f1.tr f3, a3⟩
theorem m_image63 (D : Nat) (ht : Tf T) (hw : Wf T w) (h9 : w 0 ≤ 999) : ∀ (n k : Nat) (s : Mem), k + n = 2 * tG T → MT s T → MW s w → MWr s T w (2 + tN T + k) → ∃ s1, L_M_image_63 (D + 1) (k : Int) s = some (((3 + tN T + 2 * tG T : Nat) : Int), s1) ∧ Fr PMi s s1 ∧ MPi s1 (sImg T w)
  | 0, k, s, hk, hm, hws, ha => by
    have hn := ht.2.1
    have hg := ht.2.2.1
    have e : k = 2 * tG T := by omega
    subst e
    have hc := m_ck158 D (s := s) (ls := pim T w (2 + tN T + 2 * tG T)) (Bys_pim ht hw h9 (Nat.le_refl _)) (by rw [pim_l]; omega) ha.2 (2 + tN T + 2 * tG T) 0 (by rw [pim_l, Nat.zero_add])
    rw [pim_l] at hc
    have hc' : L_M_checked_158_6 D ((2 + tN T + 2 * tG T : Nat) : Int) 223 0 s = some (ckF 223 (pim T w (2 + tN T + 2 * tG T)), s) := hc
    rw [e_M_image_63, m_g D hm, Option.bind_some, w32_i (by omega) (by omega), if_neg (by omega)]
    simp only []
    rw [ha.1, e_M_checked_158, hc', Option.bind_some]
    simp only []
    rw [e_M_writes, ha.1, inB_n (by omega), Int.toNat_natCast, w32_s (by omega), Option.bind_some]
    simp only []
    rw [rI_same, show 2 + tN T + 2 * tG T + 1 = 3 + tN T + 2 * tG T by omega]
    have a2 := ha.2.snoc (v := ckF 223 (pim T w (2 + tN T + 2 * tG T)))
    rw [pim_l] at a2
    refine ⟨_, rfl, (Fr.rf.w (Or.inl rfl)).w (Or.inr ⟨rfl, rfl⟩), ?_, ?_, fun i hi => ?_⟩
    · rw [rI_same]; unfold sImg; rw [List.length_append, pim_l, show 3 + tN T + 2 * tG T = 2 + tN T + 2 * tG T + 1 by omega]; rfl
    · unfold sImg; rw [List.length_append, pim_l]; simp only [List.length_singleton]; omega
    · rw [rI_other _ _ _ _ (by omega)]
      exact a2 i hi
  | n + 1, k, s, hk, hm, hws, ha => by
    have hn := ht.2.1
    have hg := ht.2.2.1
    have e2 : imb T w (2 + tN T + k) = w (10 + k) := by
      unfold imb
      rw [if_neg (by omega), if_neg (by omega), if_neg (by omega), show 8 + (2 + tN T + k) - tN T = 10 + k by omega]
    obtain ⟨e1, a1, f1⟩ := m_writes D ha (by omega)
    rw [e_M_image_63, m_g D hm, Option.bind_some, w32_i (by omega) (by omega), if_pos (by omega), show w32 (10 + (k : Int)) = ((10 + k : Nat) : Int) by rw [w32_i (by omega) (by omega)]; omega, inB_n (by omega), Int.toNat_natCast]
    simp only []
    rw [hws _ (by omega), ← e2, e1, Option.bind_some, w32_s (by omega)]
    simp only []
    obtain ⟨s1, e3, f3, p3⟩ := m_image63 D ht hw h9 n (k + 1) _ (by omega) (hm.fr f1 (fun a i q => by omega)) (hws.fr f1 (fun a i q => by omega)) a1
    exact ⟨s1, e3, f1.tr f3, p3⟩
theorem m_image (D : Nat) {s : Mem} (hm : MM s T w) (ht : Tf T) (hw : Wf T w) (h9 : w 0 ≤ 999) : ∃ s1, f_M_image (D + 2) s = some (((3 + tN T + 2 * tG T : Nat) : Int), s1) ∧ Fr PMi s s1 ∧ MPi s1 (sImg T w) := by
  have h0 := hw.1.1
  have e1 : iDiv (w 0) 256 = imb T w 0 := by
    rw [iDiv_n ⟨by omega, by omega⟩ ⟨by omega, by omega⟩, Int.tdiv_eq_ediv_of_nonneg h0]
    rfl
  have e2 : iRem (w 0) 256 = imb T w 1 := by
    rw [iRem_n ⟨by omega, by omega⟩ ⟨by omega, by omega⟩, Int.tmod_eq_emod_of_nonneg h0]
    rfl
  have f0 : Fr PMi s (wI s 84 109 0) := Fr.rf.w (Or.inr ⟨rfl, rfl⟩)
  have a0 : MWr (wI s 84 109 0) T w 0 := ⟨rI_same _ _ _ _, fun i hi => absurd hi (Nat.not_lt_zero i)⟩
  obtain ⟨q1, a1, f1⟩ := m_writes D a0 (by omega)
  obtain ⟨q2, a2, f2⟩ := m_writes D a1 (by omega)
  have ff : Fr PMi s _ := (f0.tr f1).tr f2
  obtain ⟨s1, e3, f3, a3⟩ := m_image35 D ht (tN T) 0 _ (by omega) (hm.1.fr ff (fun a i q => by omega)) (hm.2.1.fr ff (fun a i q => by omega)) a2
  obtain ⟨s2, e4, f4, p4⟩ := m_image63 D ht hw h9 (2 * tG T) 0 s1 (by omega) ((hm.1.fr ff (fun a i q => by omega)).fr f3 (fun a i q => by omega)) ((hm.2.1.fr ff (fun a i q => by omega)).fr f3 (fun a i q => by omega)) a3
  rw [e_M_image, hm.2.1 0 (by omega), e1, q1, Option.bind_some]
  simp only []
  rw [f1.i (by omega), f0.i (by omega), hm.2.1 0 (by omega), e2, q2, Option.bind_some]
  simp only []
  exact ⟨s2, e3.trans e4, (ff.tr f3).tr f4, p4⟩
end IMAGE
