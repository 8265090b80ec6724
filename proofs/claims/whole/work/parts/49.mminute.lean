/-! the reference's minute, whole -/
abbrev PSp : Nat → Nat → Prop := fun a i => a = 157 ∨ a = 84 ∧ (i = 50 ∨ i = 55 ∨ i = 105) ∨ a = 122 ∧ i < 24
abbrev PSt (th : Bool) : Nat → Nat → Prop := fun a i => a = 157 ∨ a = 84 ∧ (i = 50 ∨ i = 55 ∨ i = 56 ∨ i = 58 ∨ i = 59 ∨ i = 105) ∨ a = 122 ∧ (i < 24 ∨ th = false)
abbrev PMm (th : Bool) : Nat → Nat → Prop := fun a i => a = 157 ∨ a = 124 ∨ a = 84 ∧ (i = 50 ∨ i = 55 ∨ i = 56 ∨ i = 58 ∨ i = 59 ∨ i = 105) ∨ a = 122 ∧ (i < 24 ∨ th = false)
theorem PMv_Sp : ∀ a i, PMv a i → PSp a i := fun a i h => by unfold PMv at h; unfold PSp; omega
theorem PSp_St {th : Bool} : ∀ a i, PSp a i → PSt th a i := fun a i h => by unfold PSp at h; unfold PSt; omega
theorem PSt_Mm {th : Bool} : ∀ a i, PSt th a i → PMm th a i := fun a i h => by
  rcases h with h | h | h
  · exact Or.inl h
  · exact Or.inr (Or.inr (Or.inl h))
  · exact Or.inr (Or.inr (Or.inr h))
theorem PSp_T : PMT PSp := fun a i h => by unfold PSp at h; omega
theorem PSt_T {th : Bool} : PMT (PSt th) := fun a i h => by unfold PSt at h; omega
theorem PMm_T {th : Bool} : PMT (PMm th) := fun a i h => by unfold PMm at h; omega
theorem or_tab2 : ∀ k : Fin 7, ∀ a : Fin 128, a.val ||| 2 ^ k.val < 128 ∧ ∀ i : Fin 7, ((a.val ||| 2 ^ k.val) / 2 ^ i.val % 2 = 1 ↔ (a.val / 2 ^ i.val % 2 = 1 ∨ k = i)) := by decide +kernel
section MMIN
variable {T : Tab} {w : Nat → Int}
theorem m_isSpilt (D : Nat) {s : Mem} {size q : Int} (hm : MT s T) (hw : MW s w) (hf : Wf T w) (ht : Tf T) (hz : rI s 84 56 = size) (hs : 0 ≤ size ∧ size ≤ 99) (hq : -1000 ≤ q ∧ q ≤ 1000) : ∃ s1, f_M_isSpilt (D + 8) q s = some (0, s1) ∧ Fr PSp s s1 ∧ MW s1 (spl T w size q) := by
  have hg := ht.2.2.1
  have hn := ht.2.1
  rw [e_M_isSpilt, m_guestAt (D + 4) hm hw hn hg (by omega), Option.bind_some]
  unfold spl
  rcases who_or w (tG T) (trn (tN T) q) with ⟨h1, -⟩ | ⟨i, h2, h3, -⟩
  · simp only [h1, if_true]
    exact ⟨s, rfl, Fr.rf, hw⟩
  · have hv := (hf.2.2.1 i h2).2
    simp only [h3, Int.toNat_natCast]
    rw [if_neg (by omega), if_neg (by omega)]
    have told := m_isTold (D + 6) hm (k := 2) (by omega)
    rw [show f_M_isTold (D + 7) 2 s = _ from told, Option.bind_some]
    have l36 : ∀ (v : Int) (s1 : Mem), v = valu T w i size (tC T 2) → (-1000000 ≤ v ∧ v ≤ 1000000) → MW s1 w → L_M_isSpilt_36 (D + 7) (i : Int) v s1 = some (0, wI s1 122 (11 + 2 * i) (cut (w (11 + 2 * i) + cut (valu T w i size (tC T 2))))) := fun v s1 h4 h5 h6 => by
      have hcr := cut_r v
      rw [e_M_isSpilt_36, m_cut (D + 6) s1 (by omega), Option.bind_some]
      simp only []
      rw [m_swellOf (D + 6) h6 (by omega), Option.bind_some]
      simp only []
      rw [w32_i (by omega) (by omega), m_cut (D + 6) s1 (by omega), Option.bind_some]
      simp only []
      rw [w32_11 (by omega), inB_n (by omega), Int.toNat_natCast, h4]
    simp only []
    by_cases hto : rI s 119 (3 + 2) = -1
    · rw [if_pos hto, if_pos rfl, hz]
      have hv2 : valu T w i size (tC T 2) = iDiv size 2 := by
        rcases hm.2.2.2.2.2.2 with ⟨a, ha, -⟩ | ⟨-, hd⟩
        · omega
        · rw [hd, dfl_2, iDiv_n ⟨by omega, by omega⟩ ⟨by omega, by omega⟩]
          unfold flo
          rw [if_neg (by omega)]
          split
          · rfl
          · rw [if_pos (by omega)]
      have hr : -1000000 ≤ iDiv size 2 ∧ iDiv size 2 ≤ 1000000 := by
        rw [iDiv_n ⟨by omega, by omega⟩ ⟨by omega, by omega⟩]
        have := Int.natAbs_tdiv_le_natAbs size 2
        omega
      rw [l36 _ s hv2.symm hr hw]
      exact ⟨_, rfl, Fr.rf.w (Or.inr (Or.inr ⟨rfl, by omega⟩)), hw.lo _ _⟩
    · rw [if_neg hto, if_neg (by omega)]
      obtain ⟨s1, e1, f1, r1, -⟩ := m_tell D (b := 2) (k := i) (size := size) hm hw hf ht h2 (fun _ => hz) (by omega) (by omega) hm.2.2.2.2.2.2 hto ht.2.2.2.2.2.2
      have hw1 : MW s1 w := hw.fr f1 (fun a i q => by unfold PMv at q; omega)
      rw [show f_M_codesTell (D + 7) 2 (i : Int) s = _ from e1, Option.bind_some]
      simp only []
      rw [l36 _ s1 rfl r1 hw1]
      exact ⟨_, rfl, (f1.mo PMv_Sp).w (Or.inr (Or.inr ⟨rfl, by omega⟩)), hw1.lo _ _⟩
/-- a guest bursts -/
theorem m_starts (D : Nat) {s : Mem} {k bs : Nat} {th : Bool} {K : List Int} (hm : MT s T) (hw : MW s w) (hf : Wf T w) (ht : Tf T) (hk : k < tG T) (hK : Kq s th K) (h59 : rI s 84 59 = (bs : Int)) (hbs : bs < 128) : ∃ s1, f_M_starts (D + 9) (k : Int) s = some (0, s1) ∧ Fr (PSt th) s s1 ∧ MW s1 (bur T w k) ∧ Kq s1 th (if th then K else kad K (w 0) (k : Int) (w (10 + 2 * k)) (w (11 + 2 * k))) ∧ rI s1 84 58 = w32 (rI s 84 58 + 1) ∧ rI s1 84 59 = ((bs ||| 2 ^ k : Nat) : Int) := by
  have hg := ht.2.2.1
  have hn := ht.2.1
  have hse := (hf.2.2.1 k hk).1
  have hv := (hf.2.2.1 k hk).2
  have hp : 2 ^ k ≤ 2 ^ 6 := Nat.pow_le_pow_right (by omega) (by omega)
  rw [e_M_starts, m_swellOf (D + 7) hw (by omega), Option.bind_some]
  simp only []
  rw [h59, iShl_1 (by omega), iOr_nat (by omega) (by omega)]
  have f0 : Fr (PSt th) s (wI (wI (wI s 84 56 (w (11 + 2 * k))) 84 58 (w32 (rI s 84 58 + 1))) 84 59 ((bs ||| 2 ^ k : Nat) : Int)) := ((Fr.rf.w (by unfold PSt; omega)).w (by unfold PSt; omega)).w (by unfold PSt; omega)
  have f0b : Fr (fun a i => a = 84 ∧ (i = 56 ∨ i = 58 ∨ i = 59)) s (wI (wI (wI s 84 56 (w (11 + 2 * k))) 84 58 (w32 (rI s 84 58 + 1))) 84 59 ((bs ||| 2 ^ k : Nat) : Int)) := ((Fr.rf.w (by omega)).w (by omega)).w (by omega)
  have g56 : rI (wI (wI (wI s 84 56 (w (11 + 2 * k))) 84 58 (w32 (rI s 84 58 + 1))) 84 59 ((bs ||| 2 ^ k : Nat) : Int)) 84 56 = w (11 + 2 * k) := by rw [rI_other _ _ _ _ (by omega), rI_other _ _ _ _ (by omega), rI_same]
  have g58 : rI (wI (wI (wI s 84 56 (w (11 + 2 * k))) 84 58 (w32 (rI s 84 58 + 1))) 84 59 ((bs ||| 2 ^ k : Nat) : Int)) 84 58 = w32 (rI s 84 58 + 1) := by rw [rI_other _ _ _ _ (by omega), rI_same]
  have g59 : rI (wI (wI (wI s 84 56 (w (11 + 2 * k))) 84 58 (w32 (rI s 84 58 + 1))) 84 59 ((bs ||| 2 ^ k : Nat) : Int)) 84 59 = ((bs ||| 2 ^ k : Nat) : Int) := rI_same _ _ _ _
  generalize wI (wI (wI s 84 56 (w (11 + 2 * k))) 84 58 (w32 (rI s 84 58 + 1))) 84 59 ((bs ||| 2 ^ k : Nat) : Int) = s0 at f0 f0b g56 g58 g59 ⊢
  obtain ⟨s1, e1, f1, hw1, hK1⟩ := m_isKept (D + 6) (z := w (11 + 2 * k)) (hw.fr f0b (fun a i q => by omega)) (show k < 7 by omega) (hK.fr f0b (fun a i q => by omega))
  rw [e1, Option.bind_some]
  simp only []
  rw [w32_11 (by omega), inB_n (by omega), Int.toNat_natCast]
  have hw2 := hw1.lo (11 + 2 * k) 0
  have f2 : Fr (fun a i => a = 122 ∧ i < 24) s1 (wI s1 122 (11 + 2 * k) 0) := Fr.rf.w (by omega)
  have hm1 : MT s1 T := (hm.fr f0b (fun a i q => by omega)).fr f1 (fun a i q => by unfold PKh at q; omega)
  have hm2 : MT (wI s1 122 (11 + 2 * k) 0) T := hm1.fr f2 (fun a i q => by omega)
  have hf2 : Wf T (upW w (11 + 2 * k) 0) := hf.upd (by omega)
  have hz2 : rI (wI s1 122 (11 + 2 * k) 0) 84 56 = w (11 + 2 * k) := by rw [f2.i (by omega), f1.i (by unfold PKh; omega)]; exact g56
  have hK2 := hK1.fr f2 (fun a i q => by omega)
  have k58 : rI (wI s1 122 (11 + 2 * k) 0) 84 58 = w32 (rI s 84 58 + 1) := by rw [f2.i (by omega), f1.i (by unfold PKh; omega)]; exact g58
  have k59 : rI (wI s1 122 (11 + 2 * k) 0) 84 59 = ((bs ||| 2 ^ k : Nat) : Int) := by rw [f2.i (by omega), f1.i (by unfold PKh; omega)]; exact g59
  have ff2 : Fr (PSt th) s (wI s1 122 (11 + 2 * k) 0) := (f0.tr (f1.mo (fun a i q => by unfold PKh at q; unfold PSt; exact Or.inr (Or.inr ⟨q.1, Or.inr q.2.2⟩)))).tr (f2.mo (fun a i q => Or.inr (Or.inr ⟨q.1, Or.inl q.2⟩)))
  generalize wI s1 122 (11 + 2 * k) 0 = s2 at hw2 f2 hm2 hz2 hK2 k58 k59 ff2 ⊢
  have s10 : upW w (11 + 2 * k) 0 (10 + 2 * k) = w (10 + 2 * k) := upW_o (by omega)
  rw [m_seatOf (D + 7) hw2 (by omega), Option.bind_some, s10]
  simp only []
  rw [w32_i (by omega) (by omega)]
  obtain ⟨s3, e3, f3, hw3⟩ := m_isSpilt D (q := w (10 + 2 * k) - 1) hm2 hw2 hf2 ht hz2 hv (by omega)
  have s11 : spl T (upW w (11 + 2 * k) 0) (w (11 + 2 * k)) (w (10 + 2 * k) - 1) (10 + 2 * k) = w (10 + 2 * k) := ((Sw.upd k 0).tr spl_sw).2.2 k hk
  rw [e3, Option.bind_some]
  simp only []
  rw [m_seatOf (D + 7) hw3 (by omega), Option.bind_some, s11]
  simp only []
  rw [w32_i (by omega) (by omega)]
  obtain ⟨s4, e4, f4, hw4⟩ := m_isSpilt D (q := w (10 + 2 * k) + 1) (hm2.fr f3 PSp_T) hw3 hf2.splW ht ((f3.i (by unfold PSp; omega)).trans hz2) hv (by omega)
  rw [e4, Option.bind_some]
  refine ⟨s4, rfl, (ff2.tr (f3.mo PSp_St)).tr (f4.mo PSp_St), hw4, (hK2.fr f3 (fun a i q => by unfold PSp at q; omega)).fr f4 (fun a i q => by unfold PSp at q; omega), ?_, ?_⟩
  · rw [f4.i (by unfold PSp; omega), f3.i (by unfold PSp; omega)]; exact k58
  · rw [f4.i (by unfold PSp; omega), f3.i (by unfold PSp; omega)]; exact k59
theorem m_doesStart (D : Nat) {s : Mem} {k : Nat} (hm : MT s T) (hw : MW s w) (hf : Wf T w) (ht : Tf T) (hk : k < tG T) : ∃ s1, f_M_doesStart (D + 8) (k : Int) s = some (if sta T w k then 1 else 0, s1) ∧ Fr PMv s s1 := by
  have hg := ht.2.2.1
  have hn := ht.2.1
  have hse := (hf.2.2.1 k hk).1
  have e : w32 (1 + w (10 + 2 * k)) = ((1 + (w (10 + 2 * k)).toNat : Nat) : Int) := by rw [w32_i (by omega) (by omega)]; omega
  rw [e_M_doesStart, m_seatOf (D + 6) hw (by omega), Option.bind_some]
  simp only []
  rw [e, inB_n (by omega), Int.toNat_natCast, hw _ (by omega)]
  unfold sta
  by_cases a1 : w (1 + (w (10 + 2 * k)).toNat) = 1
  · rw [if_pos a1, a1]
    exact ⟨s, rfl, Fr.rf⟩
  · have a1b : (w (1 + (w (10 + 2 * k)).toNat) == 1) = false := by simpa using a1
    have told := m_isTold (D + 6) hm (k := 1) (by omega)
    rw [if_neg a1, a1b, show f_M_isTold (D + 7) 1 s = _ from told, Option.bind_some]
    simp only []
    by_cases hto : rI s 119 (3 + 1) = -1
    · rw [if_pos hto, if_pos rfl, m_swellOf (D + 6) hw (by omega), Option.bind_some]
      have hv2 : valu T w k 0 (tC T 1) = if 50 < w (11 + 2 * k) then 1 else 0 := by
        rcases hm.2.2.2.2.2.1 with ⟨a, ha, -⟩ | ⟨-, hd⟩
        · omega
        · rw [hd, dfl_1]
      rw [hv2]
      refine ⟨s, ?_, Fr.rf⟩
      simp only []
      by_cases a2 : 50 < w (11 + 2 * k)
      · rw [if_pos a2, if_pos a2]; rfl
      · rw [if_neg a2, if_neg a2]; rfl
    · rw [if_neg hto, if_neg (by omega)]
      obtain ⟨s1, e1, f1, -, r2⟩ := m_tell D (b := 1) (k := k) (size := 0) hm hw hf ht hk (fun q => by omega) (by omega) (by omega) hm.2.2.2.2.2.1 hto ht.2.2.2.2.2.1
      rw [show f_M_codesTell (D + 7) 1 (k : Int) s = _ from e1, Option.bind_some]
      refine ⟨s1, ?_, f1⟩
      simp only [lC_eq]
      rcases r2 rfl with a2 | a2 <;> rw [a2] <;> rfl
theorem m_swell2 (D : Nat) (hf : Wf T w) (ht : Tf T) : ∀ (j b : Nat) (s : Mem), b + j = tG T → MT s T → MW s w → (∀ i, i < b → rI s 124 i = swl T w (11 + 2 * i)) → ∃ s1, L_M_swell_2 (D + 7) (b : Int) s = L_M_swell_57 (D + 7) 0 s1 ∧ Fr (fun a i => PMv a i ∨ a = 124) s s1 ∧ MW s1 w ∧ MT s1 T ∧ ∀ i, i < tG T → rI s1 124 i = swl T w (11 + 2 * i)
  | 0, b, s, hb, hm, hw, hi => by
    rw [e_M_swell_2, m_g (D + 6) hm, Option.bind_some, if_neg (by simp; omega)]
    exact ⟨s, rfl, Fr.rf, hw, hm, fun i h => hi i (by omega)⟩
  | j + 1, b, s, hb, hm, hw, hi => by
    have hg := ht.2.2.1
    have hn := ht.2.1
    have hv := (hf.2.2.1 b (by omega)).2
    have hwt := (ht.2.2.2.1 b (by omega)).1
    have told := m_isTold (D + 6) hm (k := 0) (by omega)
    have key : ∃ s1, L_M_swell_2 (D + 7) (b : Int) s = L_M_swell_2 (D + 7) ((b + 1 : Nat) : Int) (wI s1 124 b (swl T w (11 + 2 * b))) ∧ Fr PMv s s1 := by
      rw [swl_at (by omega), e_M_swell_2, m_g (D + 6) hm, Option.bind_some, if_pos (by simp; omega), m_swellOf (D + 6) hw (by omega), Option.bind_some]
      simp only []
      rw [show f_M_isTold (D + 7) 0 s = _ from told, Option.bind_some]
      simp only []
      by_cases hto : rI s 119 (3 + 0) = -1
      · rw [if_pos hto, if_pos rfl, m_wetOf (D + 6) hm (by omega) hg, Option.bind_some]
        simp only []
        have hv2 : valu T w b 0 (tC T 0) = tW T b := by
          rcases hm.2.2.2.2.1 with ⟨a, ha, -⟩ | ⟨-, hd⟩
          · omega
          · rw [hd, dfl_0]
        rw [w64_i (by omega) (by omega), m_cut (D + 6) s (by omega), Option.bind_some]
        simp only []
        rw [inB_n (by omega), w32_s (by omega), Int.toNat_natCast, hv2]
        exact ⟨s, rfl, Fr.rf⟩
      · rw [if_neg hto, if_neg (by omega)]
        obtain ⟨s1, e1, f1, r1, -⟩ := m_tell D (b := 0) (k := b) (size := 0) hm hw hf ht (by omega) (fun q => by omega) (by omega) (by omega) hm.2.2.2.2.1 hto ht.2.2.2.2.1
        rw [show f_M_codesTell (D + 7) 0 (b : Int) s = _ from e1, Option.bind_some]
        simp only []
        rw [w64_i (by omega) (by omega), m_cut (D + 6) s1 (by omega), Option.bind_some]
        simp only []
        rw [inB_n (by omega), w32_s (by omega), Int.toNat_natCast]
        exact ⟨s1, rfl, f1⟩
    obtain ⟨s1, e1, f1⟩ := key
    have f2 : Fr (fun a i => PMv a i ∨ a = 124) s (wI s1 124 b (swl T w (11 + 2 * b))) := (f1.mo (fun a i q => Or.inl q)).w (Or.inr rfl)
    have hp : PMT (fun a i => PMv a i ∨ a = 124) := fun a i q => by unfold PMv at q; omega
    obtain ⟨s3, e3, f3, g1, g2, g3⟩ := m_swell2 D hf ht j (b + 1) _ (by omega) (hm.fr f2 hp) (hw.fr f2 (fun a i q => by unfold PMv at q; omega)) (fun i hi2 => by
      by_cases e : i = b
      · rw [e, rI_same]
      · rw [rI_other _ _ _ _ (by omega), f1.i (by unfold PMv; omega)]
        exact hi i (by omega))
    exact ⟨s3, e1.trans e3, f2.tr f3, g1, g2, g3⟩
theorem m_swell57 (D : Nat) (hg : tG T ≤ 7) : ∀ (j b : Nat) (s : Mem), b + j = tG T → MT s T → (∀ i, i < tG T → rI s 124 i = swl T w (11 + 2 * i)) → (∀ i, i < 24 → rI s 122 i = if i % 2 = 1 ∧ 11 ≤ i ∧ i < 11 + 2 * b then swl T w i else w i) → ∃ s1, L_M_swell_57 (D + 1) (b : Int) s = some (0, s1) ∧ Fr (fun a i => a = 122 ∧ i < 24) s s1 ∧ MW s1 (swl T w)
  | 0, b, s, hb, hm, h1, h2 => by
    rw [e_M_swell_57, m_g D hm, Option.bind_some, if_neg (by simp; omega)]
    refine ⟨s, rfl, Fr.rf, fun i hi => ?_⟩
    rw [h2 i hi]
    by_cases q : i % 2 = 1 ∧ 11 ≤ i ∧ i < 11 + 2 * b
    · rw [if_pos q]
    · rw [if_neg q]
      exact (if_neg (by omega)).symm
  | j + 1, b, s, hb, hm, h1, h2 => by
    rw [e_M_swell_57, m_g D hm, Option.bind_some, if_pos (by simp; omega), w32_11 (by omega), inB_n (by omega), inB_n (by omega), w32_s (by omega), Int.toNat_natCast, Int.toNat_natCast]
    simp only []
    rw [h1 b (by omega)]
    have f1 : Fr (fun a i => a = 122 ∧ i < 24) s (wI s 122 (11 + 2 * b) (swl T w (11 + 2 * b))) := Fr.rf.w (by omega)
    obtain ⟨s1, e1, f2, g1⟩ := m_swell57 D hg j (b + 1) _ (by omega) (hm.fr f1 (fun a i q => by omega)) (fun i hi => (f1.i (by omega)).trans (h1 i hi)) (fun i hi => by
      by_cases q : i = 11 + 2 * b
      · rw [q, rI_same, if_pos (by omega)]
      · rw [rI_other _ _ _ _ (by omega), h2 i hi]
        by_cases q2 : i % 2 = 1 ∧ 11 ≤ i ∧ i < 11 + 2 * b
        · rw [if_pos q2, if_pos (by omega)]
        · rw [if_neg q2, if_neg (by omega)])
    exact ⟨s1, e1, f1.tr f2, g1⟩
theorem m_swell (D : Nat) {s : Mem} (hm : MT s T) (hw : MW s w) (hf : Wf T w) (ht : Tf T) : ∃ s1, f_M_swell (D + 8) s = some (0, s1) ∧ Fr (fun a i => PMv a i ∨ a = 124 ∨ a = 122 ∧ i < 24) s s1 ∧ MW s1 (swl T w) := by
  have hg := ht.2.2.1
  obtain ⟨s1, e1, f1, g1, g2, g3⟩ := m_swell2 D hf ht (tG T) 0 s (by omega) hm hw (fun i hi => by omega)
  obtain ⟨s2, e2, f2, g4⟩ := m_swell57 (D + 6) hg (tG T) 0 s1 (by omega) g2 g3 (fun i hi => by rw [if_neg (by omega)]; exact g1 i hi)
  refine ⟨s2, ?_, (f1.mo (fun a i q => by rcases q with q | q; exact Or.inl q; exact Or.inr (Or.inl q))).tr (f2.mo (fun a i q => Or.inr (Or.inr q))), g4⟩
  rw [show f_M_swell (D + 8) s = L_M_swell_2 (D + 7) ((0 : Nat) : Int) s from e_M_swell (D + 7) s, e1]
  exact e2
theorem m_bursts (D : Nat) (ht : Tf T) {th : Bool} : ∀ (j k : Nat) (w : Nat → Int) (s : Mem) (K : List Int) (bs : Nat), k + j = tG T → Wf T w → MT s T → MW s w → Kq s th K → rI s 84 59 = (bs : Int) → bs < 128 → ∃ s1 bs1, L_M_minuteGoes_6 (D + 9) (k : Int) s = some (0, wI s1 122 0 (w32 (w 0 + 1))) ∧ Fr (PMm th) s s1 ∧ MW s1 (stp T j k w).1 ∧ Kq s1 th (kth th K (w 0) (stp T j k w).2) ∧ (∀ m : Nat, rI s 84 58 = (m : Int) → m + j < 100000 → rI s1 84 58 = ((m + (stp T j k w).2.length : Nat) : Int)) ∧ rI s1 84 59 = ((bs1 : Nat) : Int) ∧ bs1 < 128 ∧ ∀ i, i < 7 → (bs1 / 2 ^ i % 2 = 1 ↔ bs / 2 ^ i % 2 = 1 ∨ bin1 i (stp T j k w).2 = true)
  | 0, k, w, s, K, bs, hk, hf, hm, hw, hK, h59, hbs => by
    rw [e_M_minuteGoes_6, m_g (D + 8) hm, Option.bind_some, if_neg (by simp; omega)]
    refine ⟨s, bs, ?_, Fr.rf, hw, ?_, fun m h _ => h, h59, hbs, fun i hi => by simp [stp, bin1]⟩
    · simp only []
      rw [hw 0 (by omega)]
    · unfold kth kads stp
      cases th <;> exact hK
  | j + 1, k, w, s, K, bs, hk, hf, hm, hw, hK, h59, hbs => by
    have hg := ht.2.2.1
    obtain ⟨s1, e1, f1⟩ := m_doesStart (D + 1) hm hw hf ht (k := k) (by omega)
    have hm1 := hm.fr f1 PMv_T
    have hw1 : MW s1 w := hw.fr f1 (fun a i q => by unfold PMv at q; omega)
    have hK1 : Kq s1 th K := hK.fr f1 (fun a i q => by unfold PMv at q; omega)
    have h58b : rI s1 84 58 = rI s 84 58 := f1.i (by unfold PMv; omega)
    have h59b : rI s1 84 59 = (bs : Int) := (f1.i (by unfold PMv; omega)).trans h59
    have f1b : Fr (PMm th) s s1 := f1.mo (fun a i q => PSt_Mm a i (PSp_St a i (PMv_Sp a i q)))
    rw [e_M_minuteGoes_6, m_g (D + 8) hm, Option.bind_some, if_pos (by simp; omega), e1, Option.bind_some, w32_s (by omega)]
    simp only []
    unfold stp
    cases hst : sta T w k
    · simp only [Bool.false_eq_true, if_false, if_true]
      obtain ⟨s2, b2, e2, f2, g1, g2, g3, rest⟩ := m_bursts D ht j (k + 1) w s1 K bs (by omega) hf hm1 hw1 hK1 h59b hbs
      exact ⟨s2, b2, e2, f1b.tr f2, g1, g2, fun m q q2 => g3 m (h58b.trans q) (by omega), rest⟩
    · simp only [if_true]
      rw [if_neg (by omega)]
      obtain ⟨s2, e2, f2, hw2, hK2, h58c, h59c⟩ := m_starts D hm1 hw1 hf ht (k := k) (by omega) hK1 h59b hbs
      obtain ⟨o1, o2⟩ := or_tab2 ⟨k, by omega⟩ ⟨bs, hbs⟩
      rw [e2, Option.bind_some]
      have hb0 : (bur T w k) 0 = w 0 := (bur_sw (T := T) (w := w) (k := k)).1
      obtain ⟨s3, b3, e3, f3, g1, g2, g3, g4, g5, g6⟩ := m_bursts D ht j (k + 1) (bur T w k) s2 _ (bs ||| 2 ^ k) (by omega) hf.bur (hm1.fr f2 PSt_T) hw2 hK2 h59c o1
      refine ⟨s3, b3, ?_, (f1b.tr (f2.mo PSt_Mm)).tr f3, g1, ?_, ?_, g4, g5, fun i hi => ?_⟩
      · rw [← hb0]; exact e3
      · rw [hb0] at g2
        unfold kth at g2 ⊢
        cases th
        · exact g2
        · exact g2
      · intro m q q2
        have h1 : rI s2 84 58 = ((m + 1 : Nat) : Int) := by rw [h58c, h58b, q, w32_s (by omega)]
        rw [g3 (m + 1) h1 (by omega)]; congr 1; simp only [List.length_cons]; omega
      · rw [g6 i hi, o2 ⟨i, hi⟩]
        simp [bin1, or_assoc, Fin.ext_iff]
/-- a minute: the reference's way -/
theorem m_minute (D : Nat) {s : Mem} {th : Bool} {K : List Int} {bs : Nat} (hm : MT s T) (hw : MW s w) (hf : Wf T w) (ht : Tf T) (hK : Kq s th K) (h59 : rI s 84 59 = (bs : Int)) (hbs : bs < 128) : ∃ s1 bs1, f_M_minuteGoes (D + 10) s = some (0, s1) ∧ Fr (PMm th) s s1 ∧ MW s1 (mnt T w).1 ∧ Kq s1 th (kth th K (w 0) (mnt T w).2) ∧ (∀ m : Nat, rI s 84 58 = (m : Int) → m < 90000 → rI s1 84 58 = ((m + (mnt T w).2.length : Nat) : Int)) ∧ rI s1 84 59 = ((bs1 : Nat) : Int) ∧ bs1 < 128 ∧ ∀ i, i < 7 → (bs1 / 2 ^ i % 2 = 1 ↔ bs / 2 ^ i % 2 = 1 ∨ bin1 i (mnt T w).2 = true) := by
  have hg := ht.2.2.1
  have hw0 := hf.1
  obtain ⟨s1, e1, f1, hw1⟩ := m_swell (D + 1) hm hw hf ht
  have hp : PMT (fun a i => PMv a i ∨ a = 124 ∨ a = 122 ∧ i < 24) := fun a i q => by unfold PMv at q; omega
  have h00 : swl T w 0 = w 0 := (swl_sw (T := T) (w := w)).1
  obtain ⟨s2, b2, e2, f2, g1, g2, g3, g4, g5, g6⟩ := m_bursts D ht (th := th) (tG T) 0 (swl T w) s1 K bs (by omega) hf.swl (hm.fr f1 hp) hw1 (hK.fr f1 (fun a i q => by unfold PMv at q; omega)) ((f1.i (by unfold PMv; omega)).trans h59) hbs
  rw [h00] at e2 g2
  refine ⟨wI s2 122 0 (w 0 + 1), b2, ?_, ((f1.mo (fun a i q => by unfold PMv at q; unfold PMm; omega)).tr f2).w (by unfold PMm; omega), g1.lo 0 _, ?_, ?_, ?_, g5, g6⟩
  · rw [show f_M_minuteGoes (D + 10) s = f_M_minuteGoes (D + 9 + 1) s from rfl, e_M_minuteGoes, e1, Option.bind_some]
    rw [w32_i (by omega) (by omega)] at e2
    exact e2
  · exact g2.fr (P := fun a i => a = 122 ∧ i < 24) (Fr.rf.w (by omega)) (fun a i q => by omega)
  · intro m q q2
    rw [rI_other _ _ _ _ (by omega)]
    exact g3 m ((f1.i (by unfold PMv; omega)).trans q) (by omega)
  · rw [rI_other _ _ _ _ (by omega)]; exact g4
end MMIN
