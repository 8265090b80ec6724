/-! small questions, on both sides -/
def sKept (K : List Int) (a b : Int) : Int := if (0 ≤ a ∧ 4 * a < (K.length : Int)) ∧ 0 ≤ b ∧ b ≤ 3 then K.getD (4 * a.toNat + b.toNat) 0 else -1
theorem x_kept (D : Nat) {s : Mem} {K : List Int} (hK : KX s K) (a b : Int) : f_X_kept (D + 1) a b s = some (sKept K a b, s) := by
  obtain ⟨c, hc, hl, h1, h2⟩ := hK
  unfold sKept
  rw [e_X_kept, h1]
  by_cases a1 : a < 0
  · rw [if_pos a1, if_neg (by omega)]
  · rw [if_neg a1]
    by_cases a2 : a < (c : Int)
    · rw [if_pos a2, if_pos (by omega)]
      by_cases b1 : b < 0
      · rw [if_pos b1, if_neg (by omega)]
      · rw [if_neg b1]
        by_cases b2 : b < 4
        · have e : w32 ((w32 (a * 4)) + b) = ((4 * a.toNat + b.toNat : Nat) : Int) := by
            rw [w32_i (z := a * 4) (by omega) (by omega), w32_i (by omega) (by omega)]
            omega
          rw [if_pos b2, if_pos (by omega), e, inB_n (by omega), Int.toNat_natCast, h2 _ (by omega)]
        · rw [if_neg b2, if_neg (by omega)]
    · rw [if_neg a2, if_neg (by omega)]
theorem m_kept (D : Nat) {s : Mem} {K : List Int} (hK : MK s K) (a b : Int) : f_M_kept (D + 2) a b s = some (sKept K a b, s) := by
  obtain ⟨c, hc, hl, h1, h2⟩ := hK
  unfold sKept
  rw [e_M_kept, h1, w32_i (by omega) (by omega), m_isIn, Option.bind_some]
  simp only []
  by_cases ha : 0 ≤ a ∧ a ≤ (c : Int) - 1
  · rw [if_pos ha, if_neg (by omega), m_isIn, Option.bind_some]
    simp only []
    by_cases hb : 0 ≤ b ∧ b ≤ 3
    · have e : w32 ((w32 (25 + (w32 (4 * a)))) + b) = ((25 + (4 * a.toNat + b.toNat) : Nat) : Int) := by
        rw [w32_i (z := 4 * a) (by omega) (by omega), w32_i (z := 25 + 4 * a) (by omega) (by omega), w32_i (by omega) (by omega)]
        omega
      rw [if_pos hb, if_neg (by omega), if_pos (by omega), e, inB_n (by omega), Int.toNat_natCast, h2 _ (by omega)]
    · rw [if_neg hb, if_pos rfl, if_neg (by omega)]
  · rw [if_neg ha, if_pos rfl, if_neg (by omega)]
section SMALL
variable {T : Tab} {w : Nat → Int}
def sGuest (T : Tab) (w : Nat → Int) (a b : Int) : Int := if 0 ≤ a ∧ a < (tG T : Int) then (if b = 0 then w (10 + 2 * a.toNat) else if b = 1 then tW T a.toNat else if b = 2 then tH T a.toNat else if b = 3 then w (11 + 2 * a.toNat) else -1) else -1
theorem x_guest (D : Nat) {s : Mem} (hx : XM s T w) (ht : Tf T) (a b : Int) : f_X_guest (D + 2) a b s = some (sGuest T w a b, s) := by
  have hg := ht.2.2.1
  unfold sGuest
  rw [e_X_guest, x_isG D hx ht, Option.bind_some]
  simp only []
  by_cases ha : 0 ≤ a ∧ a < (tG T : Int)
  · obtain ⟨k, rfl⟩ := Int.eq_ofNat_of_zero_le ha.1
    have hk : k < tG T := by omega
    have h5 : rI s 29 k = w (10 + 2 * k) := hx.1.2.2.2.2.1 k hk
    have h6 : rI s 30 k = w (11 + 2 * k) := hx.1.2.2.2.2.2.1 k hk
    have h7 : rI s 31 k = tW T k := hx.1.2.2.2.2.2.2.1 k hk
    have h8 : rI s (rQ s 0 2 + 4) k = tH T k := by rw [← hx.2]; exact hx.1.2.1.2.2.2.1 k hk
    rw [if_pos ha, if_neg (by omega), if_pos ha, inB_n (by omega), inB_n (by omega), inB_n (by omega), inB_n (by omega), Int.toNat_natCast, h5, h6, h7, h8]
    repeat' split
    all_goals rfl
  · rw [if_neg ha, if_pos rfl, if_neg ha]
theorem m_guest (D : Nat) {s : Mem} (hm : MM s T w) (ht : Tf T) (a b : Int) : f_M_guest (D + 3) a b s = some (sGuest T w a b, s) := by
  have hg := ht.2.2.1
  unfold sGuest
  rw [e_M_guest, m_isG D hm.1 hg, Option.bind_some]
  simp only []
  by_cases ha : 0 ≤ a ∧ a < (tG T : Int)
  · obtain ⟨k, rfl⟩ := Int.eq_ofNat_of_zero_le ha.1
    have hk : k < tG T := by omega
    rw [if_pos ha, if_neg (by omega), if_pos ha, m_seatOf (D + 1) hm.2.1 (by omega), m_wetOf (D + 1) hm.1 hk hg, m_swellOf (D + 1) hm.2.1 (by omega), Option.bind_some, Option.bind_some, Option.bind_some, w32_15 (by omega), inB_n (by omega), Int.toNat_natCast, hm.1.2.2.2.1 k hk]
    repeat' split
    all_goals rfl
  · rw [if_neg ha, if_pos rfl, if_neg ha]
def sSeat (T : Tab) (w : Nat → Int) (a b : Int) : Int := if 0 ≤ a ∧ a < (tN T : Int) then (if b = 0 then who w (tG T) a else if b = 1 then w (1 + a.toNat) else if b = 2 then lod T w a else -1) else -1
theorem x_seat (D : Nat) {s : Mem} (hx : XM s T w) (ht : Tf T) (hw : Wf T w) (a b : Int) : f_X_seat (D + 2) a b s = some (sSeat T w a b, s) := by
  have hn := ht.2.1
  unfold sSeat
  rw [e_X_seat, x_isS D hx ht, Option.bind_some]
  simp only []
  by_cases ha : 0 ≤ a ∧ a < (tN T : Int)
  · have hh : iAnd (iShr (rI s 28 2) a) 1 = w (1 + a.toNat) := x_hoop hx.1 ha.1 (by omega)
    rw [if_pos ha, if_neg (by omega), if_pos ha, hh, x_loadOf D hx.1 ht hw ha.1 ha.2, Option.bind_some]
    obtain ⟨k, rfl⟩ := Int.eq_ofNat_of_zero_le ha.1
    have h8 : rI s 32 k = who w (tG T) (k : Int) := hx.1.2.2.2.2.2.2.2 k (by omega)
    rw [inB_n (by omega), Int.toNat_natCast, h8]
    repeat' split
    all_goals rfl
  · rw [if_neg ha, if_pos rfl, if_neg ha]
theorem m_isS (D : Nat) {s : Mem} (hm : MT s T) (hn : tN T ≤ 9) (v : Int) : f_M_isSeat (D + 2) v s = some (if 0 ≤ v ∧ v < (tN T : Int) then 1 else 0, s) := by
  rw [e_M_isSeat, m_n D hm, Option.bind_some]
  simp only []
  rw [w32_i (by omega) (by omega), m_isIn, Option.bind_some]
  by_cases h : 0 ≤ v ∧ v < (tN T : Int)
  · rw [if_pos (show 0 ≤ v ∧ v ≤ (tN T : Int) - 1 by omega), if_pos h, if_pos (Or.inr rfl)]
  · rw [if_neg (show ¬ (0 ≤ v ∧ v ≤ (tN T : Int) - 1) by omega), if_neg h, if_pos (Or.inl rfl)]
theorem m_seat (D : Nat) {s : Mem} (hm : MM s T w) (ht : Tf T) (hw : Wf T w) (a b : Int) : f_M_seat (D + 6) a b s = some (sSeat T w a b, s) := by
  have hg := ht.2.2.1
  have hn := ht.2.1
  unfold sSeat
  rw [e_M_seat, m_isS (D + 3) hm.1 hn, Option.bind_some]
  simp only []
  by_cases ha : 0 ≤ a ∧ a < (tN T : Int)
  · have htr : trn (tN T) a = a := by unfold trn; rw [if_neg (by omega), if_pos ha.2]
    have e1 : w32 (1 + a) = ((1 + a.toNat : Nat) : Int) := by rw [w32_i (by omega) (by omega)]; omega
    rw [if_pos ha, if_neg (by omega), if_pos ha, m_guestAt (D + 2) hm.1 hm.2.1 hn hg (by omega), htr, Option.bind_some, m_loadAt D hm.1 hm.2.1 hw hn hg (by omega), Option.bind_some, e1, inB_n (by omega), Int.toNat_natCast, hm.2.1 _ (by omega)]
    repeat' split
    all_goals rfl
  · rw [if_neg ha, if_pos rfl, if_neg ha]
/-- all swells of a set of guests -/
def swB (T : Tab) (w : Nat → Int) (set : Nat) : Int := sumF (fun k => if set / 2 ^ k % 2 = 1 then w (11 + 2 * k) else 0) (tG T) 0
theorem swB_r (hw : Wf T w) (ht : Tf T) (set : Nat) : 0 ≤ swB T w set ∧ swB T w set ≤ 700 := by
  have hg := ht.2.2.1
  have h := sumF_r (f := fun k => if set / 2 ^ k % 2 = 1 then w (11 + 2 * k) else 0) (b := 99) (j := tG T) (k := 0) (fun i _ hi => by
    have := (hw.2.2.1 i (by omega)).2
    split <;> omega)
  unfold swB
  omega
theorem x_swellsOf4 (D : Nat) {s : Mem} {set : Nat} (hx : XR s 28 T w) (ht : Tf T) (hw : Wf T w) (hs : set < 2 ^ tG T) : ∀ (j e : Nat) (c : Int), e + j = 7 → 0 ≤ c → c ≤ 99 * e → L_Rg_swellsOf_4 D 28 (set : Int) c (e : Int) s = some (c + sumF (fun k => if k < tG T ∧ set / 2 ^ k % 2 = 1 then w (11 + 2 * k) else 0) j e, s)
  | 0, e, c, he, h0, h1 => by
    rw [e_Rg_swellsOf_4, if_neg (by omega)]
    unfold sumF
    rw [Int.add_zero]
  | j + 1, e, c, he, h0, h1 => by
    have hg := ht.2.2.1
    have hp : 2 ^ tG T ≤ 2 ^ 7 := Nat.pow_le_pow_right (by omega) hg
    have hterm : w32 ((iAnd (iShr (set : Int) (e : Int)) 1) * (rI s (28 + 2) e)) = (if e < tG T ∧ set / 2 ^ e % 2 = 1 then w (11 + 2 * e) else 0) ∧ 0 ≤ (if e < tG T ∧ set / 2 ^ e % 2 = 1 then w (11 + 2 * e) else 0) ∧ (if e < tG T ∧ set / 2 ^ e % 2 = 1 then w (11 + 2 * e) else 0) ≤ 99 := by
      rw [bit_n (by omega) (by omega)]
      by_cases hb : set / 2 ^ e % 2 = 1
      · have hlt : e < tG T := by
          rcases Nat.lt_or_ge e (tG T) with h | h
          · exact h
          · rw [bit_hi hs h] at hb; omega
        have hv := (hw.2.2.1 e hlt).2
        rw [if_pos ⟨hlt, hb⟩, hb, hx.2.2.2.2.2.1 e hlt]
        refine ⟨?_, hv⟩
        rw [show ((1 : Nat) : Int) = 1 from rfl, Int.one_mul, w32_i (by omega) (by omega)]
      · have hz : set / 2 ^ e % 2 = 0 := by omega
        rw [if_neg (fun q => hb q.2), hz, show ((0 : Nat) : Int) = 0 from rfl, Int.zero_mul]
        exact ⟨by decide, by omega, by omega⟩
    have fin : some (c + sumF (fun k => if k < tG T ∧ set / 2 ^ k % 2 = 1 then w (11 + 2 * k) else 0) (j + 1) e, s) = some (c + (if e < tG T ∧ set / 2 ^ e % 2 = 1 then w (11 + 2 * e) else 0) + sumF (fun k => if k < tG T ∧ set / 2 ^ k % 2 = 1 then w (11 + 2 * k) else 0) j (e + 1), s) := by
      rw [show sumF (fun k => if k < tG T ∧ set / 2 ^ k % 2 = 1 then w (11 + 2 * k) else 0) (j + 1) e = (if e < tG T ∧ set / 2 ^ e % 2 = 1 then w (11 + 2 * e) else 0) + sumF (fun k => if k < tG T ∧ set / 2 ^ k % 2 = 1 then w (11 + 2 * k) else 0) j (e + 1) from rfl, Int.add_assoc]
    rw [fin, ← x_swellsOf4 D hx ht hw hs j (e + 1) _ (by omega) (by omega) (by omega), e_Rg_swellsOf_4, if_pos (by omega), inB_n (by omega), Int.toNat_natCast, hterm.1, w32_i (by omega) (by omega), w32_s (by omega)]
theorem sumF_ext {f : Nat → Int} : ∀ {j i k : Nat}, (∀ a, k + j ≤ a → a < k + j + i → f a = 0) → sumF f (j + i) k = sumF f j k
  | 0, i, k, h => by rw [Nat.zero_add, sumF_0 (fun a h1 h2 => h a (by omega) (by omega))]; rfl
  | j + 1, i, k, h => by
    rw [show j + 1 + i = (j + i) + 1 by omega]
    unfold sumF
    rw [sumF_ext (fun a h1 h2 => h a (by omega) (by omega))]
theorem x_swellsOf (D : Nat) {s : Mem} {set : Nat} (hx : XR s 28 T w) (ht : Tf T) (hw : Wf T w) (hs : set < 2 ^ tG T) : f_Rg_swellsOf (D + 1) 28 (set : Int) s = some (swB T w set, s) := by
  have hg := ht.2.2.1
  rw [e_Rg_swellsOf, show L_Rg_swellsOf_4 D 28 (set : Int) 0 0 s = _ from x_swellsOf4 D hx ht hw hs 7 0 0 rfl (by omega) (by omega), Int.zero_add]
  congr 2
  unfold swB
  rw [show (7 : Nat) = tG T + (7 - tG T) by omega, sumF_ext (fun a h1 _ => if_neg (by omega))]
  apply sumF_c
  intro i _ hi
  by_cases hb : set / 2 ^ i % 2 = 1
  · rw [if_pos ⟨by omega, hb⟩, if_pos hb]
  · rw [if_neg (fun q => hb q.2), if_neg hb]
theorem m_swellsOf4 (D : Nat) {s : Mem} {set : Nat} (hm : MT s T) (hws : MW s w) (ht : Tf T) (hw : Wf T w) (hs : set < 128) : ∀ (j e : Nat) (c : Int), e + j = tG T → 0 ≤ c → c ≤ 99 * e → L_M_swellsOf_4 (D + 1) (set : Int) c (e : Int) s = some (c + sumF (fun k => if set / 2 ^ k % 2 = 1 then w (11 + 2 * k) else 0) j e, s)
  | 0, e, c, he, h0, h1 => by
    rw [e_M_swellsOf_4, m_g D hm, Option.bind_some, if_neg (by simp; omega)]
    unfold sumF
    rw [Int.add_zero]
  | j + 1, e, c, he, h0, h1 => by
    have hg := ht.2.2.1
    have hv := (hw.2.2.1 e (by omega)).2
    have hsum : sumF (fun k => if set / 2 ^ k % 2 = 1 then w (11 + 2 * k) else 0) (j + 1) e = (if set / 2 ^ e % 2 = 1 then w (11 + 2 * e) else 0) + sumF (fun k => if set / 2 ^ k % 2 = 1 then w (11 + 2 * k) else 0) j (e + 1) := rfl
    rw [hsum, e_M_swellsOf_4, m_g D hm, Option.bind_some, if_pos (by simp; omega), bit_n (by omega) (by omega), w32_s (by omega)]
    simp only []
    by_cases hb : set / 2 ^ e % 2 = 1
    · rw [if_pos (by omega), if_pos hb, m_swellOf D hws (by omega), Option.bind_some]
      simp only []
      rw [w32_i (by omega) (by omega), m_swellsOf4 D hm hws ht hw hs j (e + 1) _ (by omega) (by omega) (by omega), Int.add_assoc]
    · rw [if_neg (by omega), if_neg hb, Int.zero_add]
      exact m_swellsOf4 D hm hws ht hw hs j (e + 1) c (by omega) h0 (by omega)
theorem m_swellsOf (D : Nat) {s : Mem} {set : Nat} (hm : MT s T) (hws : MW s w) (ht : Tf T) (hw : Wf T w) (hs : set < 128) : f_M_swellsOf (D + 2) (set : Int) s = some (swB T w set, s) := by
  rw [e_M_swellsOf, show L_M_swellsOf_4 (D + 1) (set : Int) 0 0 s = _ from m_swellsOf4 D hm hws ht hw hs (tG T) 0 0 (by omega) (by omega) (by omega), Int.zero_add]
  rfl
/-- a tun -/
def tuF (T : Tab) (w : Nat → Int) (n : Int) : Nat → Nat → Int → Int
  | 0, _, b => b
  | j + 1, set, b => if (b = -1 ∨ pcn 10 set < pcn 10 b.toNat) ∧ swB T w set = n then tuF T w n j (set + 1) (set : Int) else tuF T w n j (set + 1) b
def sTun (T : Tab) (w : Nat → Int) (n : Int) : Int := if 1 ≤ n ∧ n ≤ 693 then tuF T w n (2 ^ tG T - 1) 1 (-1) else -1
theorem swB_693 (hw : Wf T w) (ht : Tf T) (set : Nat) : swB T w set ≤ 693 := by
  have hg := ht.2.2.1
  have h := sumF_r (f := fun k => if set / 2 ^ k % 2 = 1 then w (11 + 2 * k) else 0) (b := 99) (j := tG T) (k := 0) (fun i _ hi => by
    have := (hw.2.2.1 i (by omega)).2
    split <;> omega)
  unfold swB
  omega
theorem tuF_no (hw : Wf T w) (ht : Tf T) {n : Int} (hn : 693 < n) : ∀ (j set : Nat) (b : Int), tuF T w n j set b = b
  | 0, _, _ => rfl
  | j + 1, set, b => by
    unfold tuF
    have := swB_693 hw ht set
    rw [if_neg (fun q => by omega)]
    exact tuF_no hw ht hn j (set + 1) b
theorem pcn7 : ∀ a : Fin 128, pcn 10 a.val ≤ 7 := by decide +kernel
theorem x_tun8 (D : Nat) {s : Mem} {n : Int} (hx : XM s T w) (ht : Tf T) (hw : Wf T w) (hn : 0 < n) : ∀ (j set : Nat) (c e : Int), set + j = 2 ^ tG T → ((c = -1 ∧ e = 8) ∨ ∃ b : Nat, c = (b : Int) ∧ b < 128 ∧ e = (pcn 10 b : Int)) → L_X_tun_8 (D + 1) n c e (set : Int) s = some (tuF T w n j set c, s)
  | 0, set, c, e, hj, hb => by
    have hg := ht.2.2.1
    have eg := hx.1.g
    rw [hx.2] at eg
    rw [e_X_tun_8, if_pos hn, eg, iShl_1 (by omega), if_neg (by omega)]
    rfl
  | j + 1, set, c, e, hj, hb => by
    have hg := ht.2.2.1
    have eg := hx.1.g
    rw [hx.2] at eg
    have hp : 2 ^ tG T ≤ 2 ^ 7 := Nat.pow_le_pow_right (by omega) hg
    have hp7 := pcn7 ⟨set, by omega⟩
    simp only [] at hp7
    have cond : ((pcn 10 set : Nat) : Int) < e ↔ (c = -1 ∨ pcn 10 set < pcn 10 c.toNat) := by
      rcases hb with ⟨rfl, rfl⟩ | ⟨b, rfl, h1, rfl⟩
      · constructor
        · intro _; exact Or.inl rfl
        · intro _; omega
      · rw [Int.toNat_natCast]
        constructor
        · intro h; exact Or.inr (by omega)
        · intro h; omega
    rw [e_X_tun_8, if_pos hn, eg, iShl_1 (by omega), if_pos (by omega), x_bc D (by omega), Option.bind_some, w32_s (by omega)]
    simp only []
    unfold tuF
    by_cases hc : ((pcn 10 set : Nat) : Int) < e
    · rw [if_pos hc, x_swellsOf D hx.1 ht hw (by omega), Option.bind_some]
      simp only []
      by_cases hz : swB T w set = n
      · rw [if_pos hz, if_pos ⟨cond.mp hc, hz⟩]
        exact x_tun8 D hx ht hw hn j (set + 1) (set : Int) _ (by omega) (Or.inr ⟨set, rfl, by omega, rfl⟩)
      · rw [if_neg hz, if_neg (fun q => hz q.2)]
        exact x_tun8 D hx ht hw hn j (set + 1) c e (by omega) hb
    · rw [if_neg hc, if_neg (fun q => hc (cond.mpr q.1))]
      exact x_tun8 D hx ht hw hn j (set + 1) c e (by omega) hb
theorem x_tun (D : Nat) {s : Mem} (hx : XM s T w) (ht : Tf T) (hw : Wf T w) (n : Int) : f_X_tun (D + 2) n s = some (sTun T w n, s) := by
  have hg := ht.2.2.1
  have hp : 1 ≤ 2 ^ tG T := Nat.one_le_two_pow
  unfold sTun
  rw [e_X_tun]
  by_cases hn : 0 < n
  · rw [show L_X_tun_8 (D + 1) n (-1) 8 1 s = _ from x_tun8 D hx ht hw hn (2 ^ tG T - 1) 1 (-1) 8 (by omega) (Or.inl ⟨rfl, rfl⟩)]
    by_cases h2 : n ≤ 693
    · rw [if_pos ⟨by omega, h2⟩]
    · rw [if_neg (by omega), tuF_no hw ht (by omega)]
  · rw [e_X_tun_8, if_neg hn, if_neg (by omega)]
theorem m_tun18 (D : Nat) {s : Mem} {n : Int} (hm : MT s T) (hws : MW s w) (ht : Tf T) (hw : Wf T w) : ∀ (j set : Nat) (c : Int), set + j = 2 ^ tG T → (c = -1 ∨ ∃ b : Nat, c = (b : Int) ∧ b < 128) → L_M_tun_18 (D + 2) n c (set : Int) s = some (tuF T w n j set c, s)
  | 0, set, c, hj, hb => by
    have hg := ht.2.2.1
    rw [e_M_tun_18, m_g (D + 1) hm, Option.bind_some]
    simp only []
    rw [iShl_1 (by omega), if_neg (by omega)]
    rfl
  | j + 1, set, c, hj, hb => by
    have hg := ht.2.2.1
    have hp : 2 ^ tG T ≤ 2 ^ 7 := Nat.pow_le_pow_right (by omega) hg
    rw [e_M_tun_18, m_g (D + 1) hm, Option.bind_some]
    simp only []
    rw [iShl_1 (by omega), if_pos (by omega), m_swellsOf D hm hws ht hw (by omega), Option.bind_some, w32_s (by omega)]
    simp only []
    unfold tuF
    by_cases hz : swB T w set = n
    · rw [if_pos hz]
      rcases hb with rfl | ⟨b, rfl, hb2⟩
      · rw [if_pos rfl, if_pos ⟨Or.inl rfl, hz⟩]
        exact m_tun18 D hm hws ht hw j (set + 1) (set : Int) (by omega) (Or.inr ⟨set, rfl, by omega⟩)
      · rw [if_neg (by omega), m_bits (D + 1) s (by omega), Option.bind_some]
        simp only []
        rw [m_bits (D + 1) s (by omega), Option.bind_some]
        simp only [Int.toNat_natCast]
        by_cases h : pcn 10 set < pcn 10 b
        · rw [if_pos (by omega), if_pos ⟨Or.inr h, hz⟩]
          exact m_tun18 D hm hws ht hw j (set + 1) (set : Int) (by omega) (Or.inr ⟨set, rfl, by omega⟩)
        · rw [if_neg (by omega), if_neg (fun q => by rcases q.1 with q | q <;> omega)]
          exact m_tun18 D hm hws ht hw j (set + 1) (b : Int) (by omega) (Or.inr ⟨b, rfl, hb2⟩)
    · rw [if_neg hz, if_neg (fun q => hz q.2)]
      exact m_tun18 D hm hws ht hw j (set + 1) c (by omega) hb
theorem m_tun (D : Nat) {s : Mem} (hm : MM s T w) (ht : Tf T) (hw : Wf T w) (n : Int) : f_M_tun (D + 3) n s = some (sTun T w n, s) := by
  have hp : 1 ≤ 2 ^ tG T := Nat.one_le_two_pow
  unfold sTun
  rw [e_M_tun, m_isIn, Option.bind_some]
  simp only []
  by_cases hn : 1 ≤ n ∧ n ≤ 693
  · rw [if_pos hn, if_neg (by omega), if_pos hn]
    exact m_tun18 D hm.1 hm.2.1 ht hw (2 ^ tG T - 1) 1 (-1) (by omega) (Or.inl rfl)
  · rw [if_neg hn, if_pos rfl, if_neg hn]
end SMALL
