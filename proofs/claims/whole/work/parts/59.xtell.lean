/-! telling: the class's way -/
/-- how many of a set are like v -/
def cnA (set : Nat) (f : Nat → Int) (v : Nat) : Nat → Nat → Nat
  | 0, _ => 0
  | j + 1, u => (if set / 2 ^ u % 2 = 1 ∧ f v = f u then 1 else 0) + cnA set f v j (u + 1)
def mxA (set : Nat) (f : Nat → Int) : Nat → Nat → Nat → Nat
  | 0, _, b => b
  | j + 1, v, b => mxA set f j (v + 1) (if set / 2 ^ v % 2 = 1 ∧ b < cnA set f v 10 0 then cnA set f v 10 0 else b)
def mlS (set : Nat) (f : Nat → Int) : Nat := mxA set f 10 0 0
theorem cnA_c {set : Nat} {f f' : Nat → Int} {v : Nat} : ∀ {j u : Nat}, (∀ i, u ≤ i → i < u + j → (set / 2 ^ i % 2 = 1 → (f v = f i ↔ f' v = f' i))) → cnA set f v j u = cnA set f' v j u
  | 0, _, _ => rfl
  | j + 1, u, h => by
    unfold cnA
    rw [cnA_c (fun i g1 g2 => h i (by omega) (by omega))]
    have h0 := h u (Nat.le_refl _) (by omega)
    congr 1
    by_cases e : set / 2 ^ u % 2 = 1
    · have := h0 e
      by_cases e2 : f v = f u
      · rw [if_pos ⟨e, e2⟩, if_pos ⟨e, this.mp e2⟩]
      · rw [if_neg (fun q => e2 q.2), if_neg (fun q => e2 (this.mpr q.2))]
    · rw [if_neg (fun q => e q.1), if_neg (fun q => e q.1)]
theorem mxA_c {set : Nat} {f f' : Nat → Int} (h : ∀ v i, v < 10 → i < 10 → set / 2 ^ v % 2 = 1 → set / 2 ^ i % 2 = 1 → (f v = f i ↔ f' v = f' i)) : ∀ {j v b : Nat}, v + j ≤ 10 → mxA set f j v b = mxA set f' j v b
  | 0, _, _, _ => rfl
  | j + 1, v, b, hv => by
    unfold mxA
    by_cases e : set / 2 ^ v % 2 = 1
    · rw [cnA_c (f' := f') (fun i _ hi he => h v i (by omega) (by omega) e he), mxA_c h (by omega)]
    · rw [if_neg (fun q => e q.1), if_neg (fun q => e q.1), mxA_c h (by omega)]
theorem mlS_c {set : Nat} {f f' : Nat → Int} (h : ∀ v i, v < 10 → i < 10 → set / 2 ^ v % 2 = 1 → set / 2 ^ i % 2 = 1 → (f v = f i ↔ f' v = f' i)) : mlS set f = mlS set f' := mxA_c h (by omega)
theorem ml_tab : ∀ a : Fin 1024, mlS a.val (fun _ => 0) = pcn 10 a.val := by decide +kernel
theorem ml_none {set : Nat} (hs : set < 1024) (c : Int) : mlS set (fun _ => c) = pcn 10 set := by
  rw [← ml_tab ⟨set, hs⟩]
  exact mlS_c (fun v i _ _ _ _ => ⟨fun _ => rfl, fun _ => rfl⟩)
theorem cnA_le (set : Nat) (f : Nat → Int) (v : Nat) : ∀ j u, cnA set f v j u ≤ j
  | 0, _ => Nat.le_refl _
  | j + 1, u => by
    unfold cnA
    have := cnA_le set f v j (u + 1)
    split <;> omega
theorem mxA_le (set : Nat) (f : Nat → Int) : ∀ j v b, b ≤ 10 → mxA set f j v b ≤ 10
  | 0, _, _, h => h
  | j + 1, v, b, h => by
    unfold mxA
    have := cnA_le set f v 10 0
    split
    · exact mxA_le set f j (v + 1) _ this
    · exact mxA_le set f j (v + 1) b h
/-- what each wetness would have told at a seat behind m minutes -/
def tlv (T : Tab) (w : Nat → Int) (a m q : Nat) : Nat → Int := fun v => if who w (tG T) (q : Int) = -1 then 0 else mns (tWet T a (v : Int)) m w (11 + 2 * (who w (tG T) (q : Int)).toNat)
/-- the search: minutes, seat, how many are left -/
def tlQ (T : Tab) (w : Nat → Int) (a set m : Nat) : Nat → Nat → Int × Int × Int → Int × Int × Int
  | 0, _, c => c
  | j + 1, q, c => tlQ T w a set m j (q + 1) (if (mlS set (tlv T w a m q) : Int) < c.2.2 then ((m : Int), (q : Int), (mlS set (tlv T w a m q) : Int)) else c)
def tlM (T : Tab) (w : Nat → Int) (a set : Nat) : Nat → Nat → Int × Int × Int → Int × Int × Int
  | 0, _, c => c
  | j + 1, m, c => tlM T w a set j (m + 1) (tlQ T w a set m (tN T) 0 c)
def tlS (T : Tab) (w : Nat → Int) (a set : Nat) : Int × Int × Int := tlM T w a set (if 30 < 999 - w 0 then 30 else (999 - w 0).toNat) 1 (-1, -1, 11)
section XTELL
variable {T : Tab} {w : Nat → Int} {hc : Nat} {hf : Nat → Int}
/-- the swells told ahead, wetness by wetness -/
def XSw (s : Mem) (T : Tab) (w : Nat → Int) (a v m : Nat) : Prop := ∀ d g, d < m → g < tG T → rI s (69 + v) (7 * d + g) = mns (tWet T a (v : Int)) (d + 1) w (11 + 2 * g)
theorem mns_s (T : Tab) : ∀ (n : Nat) (w : Nat → Int), mns T (n + 1) w = (mnt T (mns T n w)).1
  | 0, _ => rfl
  | n + 1, w => mns_s T n (mnt T w).1
theorem x_ahead33 (D : Nat) (ht : Tf T) (hw : Wf T w) {a v last set : Nat} (hv : v < 10) (hl : last ≤ 30) (h9 : w 0 + last ≤ 999) : ∀ (j d : Nat) (s : Mem), d + j = last → XR s 35 (tWet T a (v : Int)) (mns (tWet T a (v : Int)) d w) → XSw s T w a v d → ∃ s1, L_Hu_tellAhead_33 (D + 5) 28 (a : Int) (set : Int) (last : Int) (v : Int) (d : Int) s = L_Hu_tellAhead_3 (D + 5) 28 (a : Int) (set : Int) (last : Int) ((v + 1 : Nat) : Int) s1 ∧ Fr (fun p _ => 35 ≤ p ∧ p ≤ 41 ∨ p = 69 + v) s s1 ∧ XSw s1 T w a v last
  | 0, d, s, hj, hx, hs => by
    rw [e_Hu_tellAhead_33, if_neg (by omega), w32_s (by omega)]
    exact ⟨s, rfl, Fr.rf, by rw [← show d = last by omega]; exact hs⟩
  | j + 1, d, s, hj, hx, hs => by
    have ht2 : Tf (tWet T a (v : Int)) := ht.wet (by omega)
    have hm := mns_w (T := tWet T a (v : Int)) d (hw.wet a v) (by omega)
    have hg : tG T ≤ 7 := ht.2.2.1
    obtain ⟨s1, bb, e1, f1, h1, -⟩ := x_pass D hx ht2 hm.1 (by rw [hm.2.1]; omega)
    have e7 : w32 ((d : Int) * 7) = ((7 * d : Nat) : Int) := by rw [w32_i (by omega) (by omega)]; omega
    have f2 : Fr (fun p _ => p = 69 + v) s1 (cpI s1 37 0 (69 + v) (7 * d) 7) := Fr.rf.cp (fun _ => rfl)
    have f1b : Fr (fun p _ => 35 ≤ p ∧ p ≤ 41 ∨ p = 69 + v) s s1 := f1.mo (fun p k q => by unfold PP at q; omega)
    rw [e_Hu_tellAhead_33, if_pos (by omega), if_pos (by omega), e1, Option.bind_some]
    simp only []
    rw [inB_n hv, e7, if_pos (by omega), Int.toNat_natCast, Int.toNat_natCast, w32_s (by omega)]
    obtain ⟨s3, e3, f3, g3⟩ := x_ahead33 D ht hw (a := a) (set := set) hv hl h9 j (d + 1) (cpI s1 37 0 (69 + v) (7 * d) 7) (by omega) (by
      rw [mns_s]
      exact h1.fr f2 (fun p k q => by omega)) (fun i g hi hg2 => by
      rw [rI_cpI]
      by_cases e : i = d
      · rw [if_pos ⟨rfl, by omega, by omega⟩, show 0 + (7 * i + g - 7 * d) = g by omega, e, mns_s]
        exact h1.2.2.2.2.2.1 g hg2
      · rw [if_neg (by omega), f1.i (by unfold PP; omega)]
        exact hs i g (by omega) hg2)
    exact ⟨s3, e3, (f1b.tr (f2.mo (fun p k q => Or.inr q))).tr f3, g3⟩
abbrev PAh : Nat → Nat → Prop := fun a _ => 35 ≤ a ∧ a ≤ 41 ∨ 69 ≤ a ∧ a ≤ 78
theorem PAh_Hu : ∀ a k, PAh a k → PHu a k := fun a k h => by unfold PAh at h; unfold PHu; omega
theorem x_ahead3 (D : Nat) (ht : Tf T) (hw : Wf T w) {a last set : Nat} (ha : a < tG T) (hset : set < 1024) (hl : last ≤ 30) (h9 : w 0 + last ≤ 999) : ∀ (j v : Nat) (s : Mem), v + j = 10 → XM s T w → (∀ u, u < v → set / 2 ^ u % 2 = 1 → XSw s T w a u last) → ∃ s1, L_Hu_tellAhead_3 (D + 5) 28 (a : Int) (set : Int) (last : Int) (v : Int) s = some (0, s1) ∧ Fr PAh s s1 ∧ ∀ u, u < 10 → set / 2 ^ u % 2 = 1 → XSw s1 T w a u last
  | 0, v, s, hj, hx, hs => by
    rw [e_Hu_tellAhead_3, if_neg (by omega)]
    exact ⟨s, rfl, Fr.rf, fun u hu => hs u (by omega)⟩
  | j + 1, v, s, hj, hx, hs => by
    rw [e_Hu_tellAhead_3, if_pos (by omega), bit_n (by omega) (by omega)]
    by_cases e : set / 2 ^ v % 2 = 1
    · obtain ⟨s1, e1, f1, x1⟩ := x_tryWet (D + 3) hx ht ha (v : Int)
      obtain ⟨s2, e2, f2, g2⟩ := x_ahead33 D ht hw (a := a) (v := v) (set := set) (by omega) hl h9 last 0 s1 (by omega) x1 (fun d g hd => by omega)
      have f12 : Fr (fun p _ => 35 ≤ p ∧ p ≤ 41 ∨ p = 69 + v) s s2 := (f1.mo (fun p k q => Or.inl q)).tr f2
      obtain ⟨s3, e3, f3, g3⟩ := x_ahead3 D ht hw ha hset hl h9 j (v + 1) s2 (by omega) (hx.fr f12 (fun p k q => by omega)) (fun u hu hb => by
        by_cases q : u = v
        · rw [q]; exact g2
        · intro d g hd hg2
          rw [f12.i (by omega)]
          exact hs u (by omega) hb d g hd hg2)
      rw [if_neg (by omega), e1, Option.bind_some]
      simp only []
      rw [show L_Hu_tellAhead_33 (D + 5) 28 (a : Int) (set : Int) (last : Int) (v : Int) 0 s1 = _ from e2]
      exact ⟨s3, e3, (f12.mo (fun p k q => by unfold PAh; omega)).tr f3, g3⟩
    · have : set / 2 ^ v % 2 = 0 := by omega
      rw [if_pos (by omega), w32_s (by omega)]
      exact x_ahead3 D ht hw ha hset hl h9 j (v + 1) s (by omega) hx (fun u hu hb => by
        by_cases q : u = v
        · rw [q] at hb; omega
        · exact hs u (by omega) hb)
theorem bit_and {set f h : Nat} (hs : set < 1024) (hf : f < 10) (hh : h < 10) : iAnd (iAnd (iShr (set : Int) (f : Int)) (iShr (set : Int) (h : Int))) 1 = 1 ↔ (set / 2 ^ f % 2 = 1 ∧ set / 2 ^ h % 2 = 1) := by
  have h1 : set / 2 ^ f < 2147483648 := Nat.lt_of_le_of_lt (Nat.div_le_self _ _) (by omega)
  have h2 : set / 2 ^ h < 2147483648 := Nat.lt_of_le_of_lt (Nat.div_le_self _ _) (by omega)
  have h3 : set / 2 ^ f &&& set / 2 ^ h < 2147483648 := Nat.lt_of_le_of_lt Nat.and_le_left h1
  rw [iShr_n hs hf, iShr_n hs hh, iAnd_nat h1 h2, show (1 : Int) = ((1 : Nat) : Int) from rfl, iAnd_nat h3 (by omega), Nat.and_one_is_mod]
  have e : (set / 2 ^ f &&& set / 2 ^ h) % 2 = (set / 2 ^ f % 2) &&& (set / 2 ^ h % 2) := by
    have := Nat.and_mod_two_pow (a := set / 2 ^ f) (b := set / 2 ^ h) (n := 1)
    simpa using this
  rw [e]
  have c1 : set / 2 ^ f % 2 = 0 ∨ set / 2 ^ f % 2 = 1 := by omega
  have c2 : set / 2 ^ h % 2 = 0 ∨ set / 2 ^ h % 2 = 1 := by omega
  rcases c1 with c1 | c1 <;> rcases c2 with c2 | c2 <;> rw [c1, c2] <;> decide
theorem x_most51 (D : Nat) {s : Mem} {set c f e : Nat} (hs : set < 1024) (hf : f < 10) (hc : c < 210) (he : e ≤ 10) : ∀ (j h g : Nat), h + j = 10 → g ≤ h → L_Hu_mostLeft_51 (D + 1) (set : Int) (c : Int) (e : Int) (f : Int) (g : Int) (h : Int) s = L_Hu_mostLeft_38 (D + 1) (set : Int) (c : Int) (((if e < g + (if set / 2 ^ f % 2 = 1 then cnA set (fun v => rI s (69 + v) c) f j h else 0) then g + (if set / 2 ^ f % 2 = 1 then cnA set (fun v => rI s (69 + v) c) f j h else 0) else e : Nat) : Nat) : Int) ((f + 1 : Nat) : Int) s
  | 0, h, g, hj, hg => by
    rw [e_Hu_mostLeft_51, if_neg (by omega), x_max, Option.bind_some, w32_s (by omega)]
    have h0 : (if set / 2 ^ f % 2 = 1 then cnA set (fun v => rI s (69 + v) c) f 0 h else 0) = 0 := by split <;> rfl
    simp only [h0, Nat.add_zero]
    by_cases q : e < g
    · rw [if_pos (by omega), if_pos q]
    · rw [if_neg (by omega), if_neg q]
  | j + 1, h, g, hj, hg => by
    have ih0 := x_most51 D (s := s) (set := set) (c := c) (f := f) (e := e) hs hf hc he j (h + 1) g (by omega) (by omega)
    have ih1 := x_most51 D (s := s) (set := set) (c := c) (f := f) (e := e) hs hf hc he j (h + 1) (g + 1) (by omega) (by omega)
    have l0 : L_Hu_mostLeft_51 (D + 1) (set : Int) (c : Int) (e : Int) (f : Int) (w32 ((g : Int) + 0)) (w32 ((h : Int) + 1)) s = L_Hu_mostLeft_51 (D + 1) (set : Int) (c : Int) (e : Int) (f : Int) (g : Int) ((h + 1 : Nat) : Int) s := by
      rw [w32_s (by omega), Int.add_zero, w32_i (by omega) (by omega)]
    rw [e_Hu_mostLeft_51, if_pos (by omega)]
    by_cases hb : set / 2 ^ f % 2 = 1 ∧ set / 2 ^ h % 2 = 1
    · rw [if_pos ((bit_and hs hf (by omega)).mpr hb), e_Hu_mostLeft_78, if_neg (by omega), inB_n hf, inB_n hc, inB_n (by omega), inB_n hc, Int.toNat_natCast, Int.toNat_natCast, Int.toNat_natCast, l0]
      rw [if_pos hb.1] at ih0 ih1 ⊢
      have ec : cnA set (fun v => rI s (69 + v) c) f (j + 1) h = (if set / 2 ^ h % 2 = 1 ∧ rI s (69 + f) c = rI s (69 + h) c then 1 else 0) + cnA set (fun v => rI s (69 + v) c) f j (h + 1) := rfl
      by_cases hq : rI s (69 + f) c = rI s (69 + h) c
      · rw [if_pos ⟨hb.2, hq⟩] at ec
        rw [if_pos hq, w32_s (by omega), w32_s (by omega), ih1, ec, Nat.add_assoc]
      · rw [if_neg (fun q => hq q.2), Nat.zero_add] at ec
        rw [if_neg hq, ih0, ec]
    · rw [if_neg (fun q => hb ((bit_and hs hf (by omega)).mp q)), e_Hu_mostLeft_78, if_pos rfl, l0, ih0]
      by_cases hb1 : set / 2 ^ f % 2 = 1
      · rw [if_pos hb1, if_pos hb1]
        have hb2 : ¬ set / 2 ^ h % 2 = 1 := fun q => hb ⟨hb1, q⟩
        have ec : cnA set (fun v => rI s (69 + v) c) f (j + 1) h = cnA set (fun v => rI s (69 + v) c) f j (h + 1) := by
          show (if _ then 1 else 0) + _ = _
          rw [if_neg (fun q => hb2 q.1), Nat.zero_add]
        rw [ec]
      · rw [if_neg hb1, if_neg hb1]
theorem x_most38 (D : Nat) {s : Mem} {set c : Nat} (hs : set < 1024) (hc : c < 210) : ∀ (j f e : Nat), f + j = 10 → e ≤ 10 → L_Hu_mostLeft_38 (D + 1) (set : Int) (c : Int) (e : Int) (f : Int) s = some (((mxA set (fun v => rI s (69 + v) c) j f e : Nat) : Int), s)
  | 0, f, e, hj, he => by
    rw [e_Hu_mostLeft_38, if_neg (by omega)]
    rfl
  | j + 1, f, e, hj, he => by
    have hcn := cnA_le set (fun v => rI s (69 + v) c) f 10 0
    rw [e_Hu_mostLeft_38, if_pos (by omega), show L_Hu_mostLeft_51 (D + 1) (set : Int) (c : Int) (e : Int) (f : Int) 0 0 s = _ from x_most51 D hs (by omega) hc he 10 0 0 rfl (by omega), Nat.zero_add]
    unfold mxA
    by_cases hb : set / 2 ^ f % 2 = 1
    · rw [if_pos hb]
      by_cases hq : e < cnA set (fun v => rI s (69 + v) c) f 10 0
      · rw [if_pos hq, if_pos ⟨hb, hq⟩]
        exact x_most38 D hs hc j (f + 1) _ (by omega) hcn
      · rw [if_neg hq, if_neg (fun q => hq q.2)]
        exact x_most38 D hs hc j (f + 1) e (by omega) he
    · rw [if_neg hb, if_neg (by omega), if_neg (fun q => hb q.1)]
      exact x_most38 D hs hc j (f + 1) e (by omega) he
theorem x_most (D : Nat) {s : Mem} {a set m last q : Nat} (ht : Tf T) (hs : set < 1024) (hsw : ∀ u, u < 10 → set / 2 ^ u % 2 = 1 → XSw s T w a u last) (hm : 1 ≤ m ∧ m ≤ last) (hl : last ≤ 30) : f_Hu_mostLeft (D + 2) (set : Int) (m : Int) (who w (tG T) (q : Int)) s = some ((mlS set (tlv T w a m q) : Int), s) := by
  have hg := ht.2.2.1
  rw [e_Hu_mostLeft]
  rcases who_or w (tG T) (q : Int) with ⟨w1, -⟩ | ⟨i, w2, w3, -⟩
  · rw [w1, if_pos (by omega), x_bc (D) hs, Option.bind_some]
    have : tlv T w a m q = fun _ => 0 := by
      funext v
      unfold tlv
      rw [w1, if_pos rfl]
    rw [this, ml_none hs]
  · have e1 : w32 ((w32 ((w32 ((m : Int) - 1)) * 7)) + (i : Int)) = ((7 * (m - 1) + i : Nat) : Int) := by
      rw [w32_i (z := (m : Int) - 1) (by omega) (by omega), w32_i (z := ((m : Int) - 1) * 7) (by omega) (by omega), w32_i (by omega) (by omega)]
      omega
    rw [w3, if_neg (by omega), e1, if_neg (by omega), if_pos (by omega), show L_Hu_mostLeft_38 (D + 1) (set : Int) ((7 * (m - 1) + i : Nat) : Int) 0 0 s = _ from x_most38 D hs (by omega) 10 0 0 rfl (by omega)]
    have : mxA set (fun v => rI s (69 + v) (7 * (m - 1) + i)) 10 0 0 = mlS set (tlv T w a m q) := mlS_c (fun v u hv hu bv bu => by
      have e2 : ∀ x, x < 10 → set / 2 ^ x % 2 = 1 → rI s (69 + x) (7 * (m - 1) + i) = tlv T w a m q x := fun x hx bx => by
        rw [hsw x hx bx (m - 1) i (by omega) w2, show m - 1 + 1 = m by omega]
        unfold tlv
        rw [w3, if_neg (by omega), Int.toNat_natCast]
      rw [e2 v hv bv, e2 u hu bu])
    rw [this]
/-- what the class found -/
def Tl (s : Mem) (c : Int × Int × Int) : Prop := (rI s 66 4 = c.1 ∧ rI s 66 5 = c.2.1 ∨ c.2.2 = 11) ∧ rI s 66 6 = c.2.2
abbrev PTl : Nat → Nat → Prop := fun a k => a = 66 ∧ (k = 4 ∨ k = 5 ∨ k = 6)
theorem x_tell43 (D : Nat) {a set m last : Nat} (ht : Tf T) (hs : set < 1024) (hm : 1 ≤ m ∧ m ≤ last) (hl : last ≤ 30) : ∀ (j q : Nat) (c : Int × Int × Int) (s : Mem), q + j = tN T → XM s T w → (∀ u, u < 10 → set / 2 ^ u % 2 = 1 → XSw s T w a u last) → Tl s c → ∃ s1, L_Hu_seekTelling_43 (D + 2) 28 (set : Int) (last : Int) (m : Int) (q : Int) s = L_Hu_seekTelling_33 (D + 2) 28 (set : Int) (last : Int) ((m + 1 : Nat) : Int) s1 ∧ Fr PTl s s1 ∧ Tl s1 (tlQ T w a set m j q c)
  | 0, q, c, s, hj, hx, hsw, hc => by
    rw [e_Hu_seekTelling_43, hx.1.n, if_neg (by omega), w32_s (by omega)]
    exact ⟨s, rfl, Fr.rf, hc⟩
  | j + 1, q, c, s, hj, hx, hsw, hc => by
    have hn := ht.2.1
    have h8 : rI s (28 + 4) q = who w (tG T) (q : Int) := hx.1.2.2.2.2.2.2.2 q (by omega)
    rw [e_Hu_seekTelling_43, hx.1.n, if_pos (by omega), if_pos (by omega), inB_n (by omega), Int.toNat_natCast, h8, x_most D ht hs hsw hm hl, Option.bind_some, hc.2, w32_s (by omega)]
    unfold tlQ
    simp only []
    by_cases h : (mlS set (tlv T w a m q) : Int) < c.2.2
    · rw [if_pos h, if_pos h]
      have f1 : Fr PTl s (wI (wI (wI s 66 4 (m : Int)) 66 5 (q : Int)) 66 6 (mlS set (tlv T w a m q) : Int)) := ((Fr.rf.w (by unfold PTl; omega)).w (by unfold PTl; omega)).w (by unfold PTl; omega)
      obtain ⟨s2, e2, f2, c2⟩ := x_tell43 D ht hs hm hl j (q + 1) ((m : Int), (q : Int), (mlS set (tlv T w a m q) : Int)) _ (by omega) (hx.fr f1 (fun a k q => by unfold PTl at q; omega)) (fun u hu hb d g hd hg2 => by rw [f1.i (by unfold PTl; omega)]; exact hsw u hu hb d g hd hg2) ⟨Or.inl ⟨by rw [rI_other _ _ _ _ (by omega), rI_other _ _ _ _ (by omega), rI_same], by rw [rI_other _ _ _ _ (by omega), rI_same]⟩, rI_same _ _ _ _⟩
      exact ⟨s2, e2, f1.tr f2, c2⟩
    · rw [if_neg h, if_neg h]
      exact x_tell43 D ht hs hm hl j (q + 1) c s (by omega) hx hsw hc
theorem x_tell33 (D : Nat) {a set last : Nat} (ht : Tf T) (hs : set < 1024) (hl : last ≤ 30) : ∀ (j m : Nat) (c : Int × Int × Int) (s : Mem), m + j = last + 1 → 1 ≤ m → XM s T w → (∀ u, u < 10 → set / 2 ^ u % 2 = 1 → XSw s T w a u last) → Tl s c → ∃ s1, L_Hu_seekTelling_33 (D + 2) 28 (set : Int) (last : Int) (m : Int) s = some (0, s1) ∧ Fr PTl s s1 ∧ Tl s1 (tlM T w a set j m c)
  | 0, m, c, s, hj, h1, hx, hsw, hc => by
    rw [e_Hu_seekTelling_33, if_pos (by omega)]
    exact ⟨s, rfl, Fr.rf, hc⟩
  | j + 1, m, c, s, hj, h1, hx, hsw, hc => by
    obtain ⟨s1, e1, f1, c1⟩ := x_tell43 D (m := m) (last := last) ht hs (by omega) hl (tN T) 0 c s (by omega) hx hsw hc
    obtain ⟨s2, e2, f2, c2⟩ := x_tell33 D ht hs hl j (m + 1) _ s1 (by omega) (by omega) (hx.fr f1 (fun a k q => by unfold PTl at q; omega)) (fun u hu hb d g hd hg2 => by rw [f1.i (by unfold PTl; omega)]; exact hsw u hu hb d g hd hg2) c1
    rw [e_Hu_seekTelling_33, if_neg (by omega), show L_Hu_seekTelling_43 (D + 2) 28 (set : Int) (last : Int) (m : Int) 0 s = _ from e1]
    exact ⟨s2, e2, f1.tr f2, c2⟩
theorem x_telling (D : Nat) {s : Mem} {a set : Nat} (hx : XM s T w) (ht : Tf T) (hw : Wf T w) (h9 : w 0 ≤ 999) (ha : a < tG T) (hs : set < 1024) : ∃ s1, f_Hu_seekTelling (D + 7) 28 (a : Int) (set : Int) s = some (0, s1) ∧ Fr PHu s s1 ∧ Tl s1 (tlS T w a set) := by
  have h0 := hw.1
  have hlast : ∃ last : Nat, (if (999 : Int) - w 0 < 30 then (999 : Int) - w 0 else 30) = (last : Int) ∧ last = (if 30 < 999 - w 0 then 30 else (999 - w 0).toNat) ∧ last ≤ 30 ∧ w 0 + last ≤ 999 := by
    refine ⟨_, ?_, rfl, ?_, ?_⟩
    · split <;> split <;> omega
    · split <;> omega
    · split <;> omega
  obtain ⟨last, l1, l2, l3, l4⟩ := hlast
  have f0 : Fr PTl s (wI s 66 6 11) := Fr.rf.w (by unfold PTl; omega)
  have x0 := hx.fr f0 (fun a k q => by unfold PTl at q; omega)
  obtain ⟨s1, e1, f1, g1⟩ := x_ahead3 D (a := a) (last := last) (set := set) ht hw ha hs l3 l4 10 0 (wI s 66 6 11) rfl x0 (fun u hu => by omega)
  have h6 : rI s1 66 6 = 11 := by
    rw [f1.i (by unfold PAh; omega), rI_same]
  obtain ⟨s2, e2, f2, c2⟩ := x_tell33 (D + 4) (a := a) (set := set) (last := last) ht hs l3 last 1 (-1, -1, 11) s1 (by omega) (by omega) (x0.fr f1 (fun a k q => by unfold PAh at q; omega)) g1 ⟨Or.inr rfl, h6⟩
  rw [e_Hu_seekTelling, hx.1.2.2.1, x_min, Option.bind_some, w32_i (by omega) (by omega)]
  simp only []
  rw [l1, show f_Hu_tellAhead (D + 6) 28 (a : Int) (set : Int) (last : Int) (wI s 66 6 11) = _ from (e_Hu_tellAhead (D + 5) 28 a set last _).trans e1, Option.bind_some]
  refine ⟨s2, e2, ((f0.mo (fun a k q => by unfold PTl at q; unfold PHu; omega)).tr (f1.mo PAh_Hu)).tr (f2.mo (fun a k q => by unfold PTl at q; unfold PHu; omega)), ?_⟩
  unfold tlS
  rw [← l2]
  exact c2
theorem tlM_c : ∀ (j m : Nat) (c : Int × Int × Int) (set : Nat) (a : Nat), (c.2.2 = 11 ∨ 0 ≤ c.2.2 ∧ c.2.2 ≤ 10) → 0 < j → 3 ≤ tN T → 0 ≤ (tlM T w a set j m c).2.2 ∧ (tlM T w a set j m c).2.2 ≤ 10 := by
  have q1 : ∀ (j q : Nat) (c : Int × Int × Int) (set a m : Nat), (c.2.2 = 11 ∨ 0 ≤ c.2.2 ∧ c.2.2 ≤ 10) → (0 < j ∨ 0 ≤ c.2.2 ∧ c.2.2 ≤ 10) → 0 ≤ (tlQ T w a set m j q c).2.2 ∧ (tlQ T w a set m j q c).2.2 ≤ 10 := by
    intro j
    induction j with
    | zero => intro q c set a m h h2; exact h2.resolve_left (by omega)
    | succ j ih =>
      intro q c set a m h h2
      unfold tlQ
      have hml := mxA_le set (tlv T w a m q) 10 0 0 (by omega)
      have hml2 : mlS set (tlv T w a m q) ≤ 10 := hml
      by_cases e : (mlS set (tlv T w a m q) : Int) < c.2.2
      · rw [if_pos e]
        exact ih (q + 1) _ set a m (Or.inr (by simp only []; omega)) (Or.inr (by simp only []; omega))
      · rw [if_neg e]
        exact ih (q + 1) c set a m h (Or.inr (by omega))
  intro j
  induction j with
  | zero => intro m c set a h h2 h3; omega
  | succ j ih =>
    intro m c set a h h2 h3
    unfold tlM
    have h4 := q1 (tN T) 0 c set a m h (Or.inl (by omega))
    by_cases hj : 0 < j
    · exact ih (m + 1) _ set a (Or.inr h4) hj h3
    · have : j = 0 := by omega
      subst this
      exact h4
def sTells (T : Tab) (w : Nat → Int) (hc : Nat) (hf : Nat → Int) (a b : Int) : Int := if (0 ≤ a ∧ a < (tG T : Int)) ∧ (0 ≤ b ∧ b ≤ 2) ∧ w 0 < 999 then (if wtS T w hc hf a.toNat = 0 then -1 else if b = 0 then (tlS T w a.toNat (wtS T w hc hf a.toNat)).1 else if b = 1 then (tlS T w a.toNat (wtS T w hc hf a.toNat)).2.1 else (tlS T w a.toNat (wtS T w hc hf a.toNat)).2.2) else -1
theorem wtF_r (T : Tab) (w : Nat → Int) (hc : Nat) (hf : Nat → Int) (a : Nat) : ∀ (j v b : Nat), v + j = 10 → b < 2 ^ v → wtF T w hc hf a j v b < 2 ^ 10
  | 0, v, b, hj, hb => by rw [← show v = 10 by omega]; exact hb
  | j + 1, v, b, hj, hb => by
    unfold wtF
    refine wtF_r T w hc hf a j (v + 1) _ (by omega) ?_
    rw [Nat.pow_succ]
    split <;> omega
theorem x_tells (D : Nat) {s : Mem} (hx : XM s T w) (ht : Tf T) (hw : Wf T w) (h99 : w 0 ≤ 999) (hh : XHs s hc hf) (hH : Hf T hc hf) (a b : Int) : ∃ s1, f_X_tells (D + 9) a b s = some (sTells T w hc hf a b, s1) ∧ Fr PHu s s1 := by
  unfold sTells
  rw [e_X_tells, x_isG (D + 7) hx ht, Option.bind_some]
  simp only []
  by_cases ha : 0 ≤ a ∧ a < (tG T : Int)
  · obtain ⟨k, rfl⟩ := Int.eq_ofNat_of_zero_le ha.1
    rw [if_pos ha, if_neg (by omega)]
    by_cases b1 : b < 0
    · rw [if_pos b1, if_neg (by omega)]
      exact ⟨s, rfl, Fr.rf⟩
    · rw [if_neg b1]
      by_cases b2 : 2 < b
      · rw [if_pos b2, if_neg (by omega)]
        exact ⟨s, rfl, Fr.rf⟩
      · rw [if_neg b2, hx.1.2.2.1]
        by_cases h9 : w 0 < 999
        · rw [if_pos h9, if_pos ⟨ha, ⟨by omega, by omega⟩, h9⟩, Int.toNat_natCast]
          obtain ⟨s1, e1, f1⟩ := x_wetsOf D hx ht hw h99 hh hH (a := k) (by omega)
          have hset : wtS T w hc hf k < 1024 := wtF_r T w hc hf k 10 0 0 rfl (by decide)
          rw [e1, Option.bind_some]
          simp only []
          by_cases hz : wtS T w hc hf k = 0
          · rw [if_pos (by omega), if_pos hz]
            exact ⟨s1, rfl, f1.mo PTr_Hu⟩
          · rw [if_neg (by omega), if_neg hz]
            obtain ⟨s2, e2, f2, c2⟩ := x_telling (D + 1) (a := k) (hx.fr f1 PTr33) ht hw h99 (by omega) hset
            rw [show f_Hu_seekTelling (D + 8) 28 (k : Int) (wtS T w hc hf k : Int) s1 = _ from e2, Option.bind_some]
            simp only []
            have h0 := hw.1
            have hr : 0 ≤ (tlS T w k (wtS T w hc hf k)).2.2 ∧ (tlS T w k (wtS T w hc hf k)).2.2 ≤ 10 := tlM_c _ 1 _ _ k (Or.inl rfl) (by split <;> omega) ht.1
            rcases c2 with ⟨c3 | c3, c4⟩
            · rw [c3.1, c3.2, c4]
              refine ⟨s2, ?_, (f1.mo PTr_Hu).tr f2⟩
              by_cases q1 : b = 0
              · rw [if_pos q1, if_pos q1]
              · rw [if_neg q1, if_neg q1]
                by_cases q2 : b = 1
                · rw [if_pos q2, if_pos q2]
                · rw [if_neg q2, if_neg q2]
            · omega
        · rw [if_neg h9, if_neg (by omega)]
          exact ⟨s, rfl, Fr.rf⟩
  · rw [if_neg ha, if_pos rfl, if_neg (fun q => ha q.1)]
    exact ⟨s, rfl, Fr.rf⟩
end XTELL
