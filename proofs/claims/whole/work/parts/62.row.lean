/-! the longest row, how many there are; on both sides -/
def rX (p : Nat → Bool) (n : Nat) : Nat → Nat → Nat → Nat → Nat
  | 0, _, _, b => b
  | j + 1, k, c, b => if p (if k < n then k else k - n) then rX p n j (k + 1) (c + 1) (if b < c + 1 then c + 1 else b) else rX p n j (k + 1) 0 b
def rR (p : Nat → Bool) (n q : Nat) : Nat → Nat → Nat
  | 0, i => i
  | j + 1, i => if p (if q + i < n then q + i else q + i - n) then rR p n q j (i + 1) else i
def rM (p : Nat → Bool) (n : Nat) : Nat → Nat → Nat → Nat
  | 0, _, b => b
  | j + 1, q, b => rM p n j (q + 1) (if b < rR p n q n 0 then rR p n q n 0 else b)
def pbit (a : Nat) : Nat → Bool := fun q => a / 2 ^ q % 2 == 1
theorem row_tab : ∀ n : Fin 10, 3 ≤ n.val → ∀ a : Fin 512, a.val < 2 ^ n.val → min (rX (pbit a.val) n.val (2 * n.val) 0 0 0) n.val = rM (pbit a.val) n.val n.val 0 0 := by decide +kernel
theorem rX_c {p p' : Nat → Bool} {n : Nat} (h : ∀ q, q < n → p q = p' q) : ∀ {j k c b : Nat}, k + j = 2 * n → rX p n j k c b = rX p' n j k c b
  | 0, _, _, _, _ => rfl
  | j + 1, k, c, b, hj => by
    unfold rX
    rw [h _ (show (if k < n then k else k - n) < n by split <;> omega), rX_c h (by omega), rX_c h (by omega)]
theorem rR_c {p p' : Nat → Bool} {n q : Nat} (h : ∀ q, q < n → p q = p' q) (hq : q < n) : ∀ {j i : Nat}, i + j ≤ n → rR p n q j i = rR p' n q j i
  | 0, _, _ => rfl
  | j + 1, i, hj => by
    unfold rR
    rw [h _ (show (if q + i < n then q + i else q + i - n) < n by split <;> omega), rR_c h hq (by omega)]
theorem rM_c {p p' : Nat → Bool} {n : Nat} (h : ∀ q, q < n → p q = p' q) : ∀ {j q b : Nat}, q + j ≤ n → rM p n j q b = rM p' n j q b
  | 0, _, _, _ => rfl
  | j + 1, q, b, hj => by
    unfold rM
    rw [rR_c h (by omega) (by omega), rM_c h (by omega)]
theorem bex_tab : ∀ n : Fin 9, ∀ a : Fin 512, a.val < 2 ^ n.val → (a.val + 2 ^ n.val) / 2 ^ n.val % 2 = 1 ∧ a.val / 2 ^ n.val % 2 = 0 ∧ ∀ q : Fin 9, q.val < n.val → (a.val + 2 ^ n.val) / 2 ^ q.val % 2 = a.val / 2 ^ q.val % 2 := by decide +kernel
theorem bits_ex (p : Nat → Bool) : ∀ n, n ≤ 9 → ∃ a, a < 2 ^ n ∧ ∀ q, q < n → p q = pbit a q
  | 0, _ => ⟨0, by decide, fun q h => by omega⟩
  | n + 1, h => by
    obtain ⟨a, h1, h2⟩ := bits_ex p n (by omega)
    have hp : 2 ^ n ≤ 2 ^ 8 := Nat.pow_le_pow_right (by omega) (by omega)
    obtain ⟨t1, t2, t3⟩ := bex_tab ⟨n, by omega⟩ ⟨a, by omega⟩ h1
    simp only [] at t1 t2 t3
    cases hb : p n
    · refine ⟨a, by rw [Nat.pow_succ]; omega, fun q hq => ?_⟩
      by_cases e : q = n
      · rw [e, hb]; unfold pbit; rw [t2]; rfl
      · exact h2 q (by omega)
    · refine ⟨a + 2 ^ n, by rw [Nat.pow_succ]; omega, fun q hq => ?_⟩
      by_cases e : q = n
      · rw [e, hb]; unfold pbit; rw [t1]; rfl
      · rw [h2 q (by omega)]
        unfold pbit
        rw [t3 ⟨q, by omega⟩ (by show q < n; omega)]
theorem row_eq (p : Nat → Bool) {n : Nat} (h3 : 3 ≤ n) (h9 : n ≤ 9) : min (rX p n (2 * n) 0 0 0) n = rM p n n 0 0 := by
  obtain ⟨a, h1, h2⟩ := bits_ex p n h9
  have hp : 2 ^ n ≤ 2 ^ 9 := Nat.pow_le_pow_right (by omega) h9
  rw [rX_c h2 (by omega), rM_c h2 (by omega)]
  exact row_tab ⟨n, by omega⟩ h3 ⟨a, by omega⟩ h1
section ROW
variable {T : Tab} {w : Nat → Int}
def occ (T : Tab) (w : Nat → Int) : Nat → Bool := fun q => !(who w (tG T) (q : Int) == -1)
def sRow (T : Tab) (w : Nat → Int) : Int := (rM (occ T w) (tN T) (tN T) 0 0 : Int)
theorem x_row6 (D : Nat) {s : Mem} (hx : XM s T w) (ht : Tf T) : ∀ (j k c b : Nat), k + j = 2 * tN T → c ≤ k → b ≤ k → L_X_row_6 (D + 1) (b : Int) (c : Int) (k : Int) s = some (((min (rX (occ T w) (tN T) j k c b) (tN T) : Nat) : Int), s)
  | 0, k, c, b, hj, hc, hb => by
    have hn := ht.2.1
    have en := hx.1.n
    rw [hx.2] at en
    rw [e_X_row_6, en, w32_i (by omega) (by omega), if_neg (by omega), x_min, Option.bind_some]
    simp only []
    unfold rX
    split <;> congr 2 <;> omega
  | j + 1, k, c, b, hj, hc, hb => by
    have hn := ht.2.1
    have en := hx.1.n
    rw [hx.2] at en
    have l43 : ∀ q : Nat, q < tN T → q = (if k < tN T then k else k - tN T) → L_X_row_43 (D + 1) (b : Int) (c : Int) (k : Int) (q : Int) s = some (((min (rX (occ T w) (tN T) (j + 1) k c b) (tN T) : Nat) : Int), s) := fun q hq he => by
      have h8 : rI s 32 q = who w (tG T) (q : Int) := hx.1.2.2.2.2.2.2.2 q (by omega)
      rw [e_X_row_43, if_pos (by omega), inB_n (by omega), Int.toNat_natCast, h8, w32_s (by omega), w32_s (by omega)]
      unfold rX
      rw [← he]
      by_cases hw : who w (tG T) (q : Int) = -1
      · have ho : occ T w q = false := by unfold occ; rw [hw]; rfl
        rw [if_pos hw, x_max, Option.bind_some, ho]
        simp only [Bool.false_eq_true, if_false]
        have hm : (if (b : Int) < 0 then (0 : Int) else (b : Int)) = (b : Int) := if_neg (by omega)
        rw [hm]
        exact x_row6 D hx ht j (k + 1) 0 b (by omega) (by omega) (by omega)
      · have ho : occ T w q = true := by unfold occ; simpa using hw
        rw [if_neg hw, x_max, Option.bind_some, ho]
        simp only [if_true]
        have hm : (if (b : Int) < ((c + 1 : Nat) : Int) then ((c + 1 : Nat) : Int) else (b : Int)) = (((if b < c + 1 then c + 1 else b) : Nat) : Int) := by
          by_cases q2 : b < c + 1
          · rw [if_pos (by omega), if_pos q2]
          · rw [if_neg (by omega), if_neg q2]
        rw [hm]
        exact x_row6 D hx ht j (k + 1) (c + 1) _ (by omega) (by omega) (by split <;> omega)
    rw [e_X_row_6, en, w32_i (by omega) (by omega), if_pos (by omega)]
    by_cases hk : k < tN T
    · rw [if_pos (by omega)]
      exact l43 k hk (by rw [if_pos hk])
    · rw [if_neg (by omega), show w32 ((k : Int) - (tN T : Int)) = ((k - tN T : Nat) : Int) by rw [w32_i (by omega) (by omega)]; omega]
      exact l43 (k - tN T) (by omega) (by rw [if_neg hk])
theorem x_row (D : Nat) {s : Mem} (hx : XM s T w) (ht : Tf T) : f_X_row (D + 2) s = some (sRow T w, s) := by
  have h := x_row6 D hx ht (2 * tN T) 0 0 0 (by omega) (by omega) (by omega)
  rw [row_eq _ ht.1 ht.2.1] at h
  exact (e_X_row (D + 1) s).trans h
theorem m_row14 (D : Nat) {s : Mem} {b q : Nat} (hm : MT s T) (hw : MW s w) (ht : Tf T) (hq : q < tN T) : ∀ (j i : Nat), i + j = tN T → L_M_row_14 (D + 3) (b : Int) (q : Int) (i : Int) s = L_M_row_39 (D + 3) (b : Int) (q : Int) (rR (occ T w) (tN T) q j i : Int) s
  | 0, i, hj => by
    rw [e_M_row_14, m_n (D + 2) hm, Option.bind_some, if_neg (by simp; omega)]
    rfl
  | j + 1, i, hj => by
    have hg := ht.2.2.1
    have hn := ht.2.1
    have htr : trn (tN T) ((q : Int) + (i : Int)) = (((if q + i < tN T then q + i else q + i - tN T) : Nat) : Int) := by
      unfold trn
      rw [if_neg (by omega)]
      by_cases h : q + i < tN T
      · rw [if_pos (by omega), if_pos h]; omega
      · rw [if_neg (by omega), if_neg h]; omega
    rw [e_M_row_14, m_n (D + 2) hm, Option.bind_some, if_pos (by simp; omega), w32_i (z := (q : Int) + (i : Int)) (by omega) (by omega), m_guestAt D hm hw hn hg (by omega), Option.bind_some, htr, w32_s (by omega)]
    simp only []
    unfold rR
    by_cases h : who w (tG T) (((if q + i < tN T then q + i else q + i - tN T) : Nat) : Int) = -1
    · have ho : occ T w (if q + i < tN T then q + i else q + i - tN T) = false := by unfold occ; rw [h]; rfl
      rw [if_pos h, ho]
      simp
    · have ho : occ T w (if q + i < tN T then q + i else q + i - tN T) = true := by unfold occ; simpa using h
      rw [if_neg h, ho, if_pos rfl]
      exact m_row14 D hm hw ht hq j (i + 1) (by omega)
theorem m_row4 (D : Nat) {s : Mem} (hm : MT s T) (hw : MW s w) (ht : Tf T) : ∀ (j q b : Nat), q + j = tN T → L_M_row_4 (D + 3) (b : Int) (q : Int) s = some ((rM (occ T w) (tN T) j q b : Int), s)
  | 0, q, b, hj => by
    rw [e_M_row_4, m_n (D + 2) hm, Option.bind_some, if_neg (by simp; omega)]
    rfl
  | j + 1, q, b, hj => by
    have hn := ht.2.1
    rw [e_M_row_4, m_n (D + 2) hm, Option.bind_some, if_pos (by simp; omega)]
    simp only []
    rw [show L_M_row_14 (D + 3) (b : Int) (q : Int) 0 s = _ from m_row14 D hm hw ht (by omega) (tN T) 0 (by omega), e_M_row_39, w32_s (by omega)]
    unfold rM
    by_cases h : b < rR (occ T w) (tN T) q (tN T) 0
    · rw [if_pos (by omega), if_pos h]
      exact m_row4 D hm hw ht j (q + 1) _ (by omega)
    · rw [if_neg (by omega), if_neg h]
      exact m_row4 D hm hw ht j (q + 1) b (by omega)
theorem m_row (D : Nat) {s : Mem} (hm : MM s T w) (ht : Tf T) : f_M_row (D + 4) s = some (sRow T w, s) := (e_M_row (D + 3) s).trans (m_row4 D hm.1 hm.2.1 ht (tN T) 0 0 (by omega))
theorem hb_tab : ∀ a : Fin 512, pcn 10 a.val = a.val / 2 ^ 0 % 2 + a.val / 2 ^ 1 % 2 + a.val / 2 ^ 2 % 2 + a.val / 2 ^ 3 % 2 + a.val / 2 ^ 4 % 2 + a.val / 2 ^ 5 % 2 + a.val / 2 ^ 6 % 2 + a.val / 2 ^ 7 % 2 + a.val / 2 ^ 8 % 2 := by decide +kernel
theorem all_tab : ∀ g : Fin 8, ∀ k : Fin 7, k.val < g.val → (2 ^ g.val - 1) / 2 ^ k.val % 2 = 1 := by decide +kernel
def sHas (T : Tab) (w : Nat → Int) (K : List Int) (hc nu : Nat) (a : Int) : Int := if a = 0 then (tN T : Int) else if a = 1 then (tG T : Int) else if a = 2 then sumF (fun q => w (1 + q)) 9 0 else if a = 3 then w 0 else if a = 4 then sumF (fun k => w (11 + 2 * k)) (tG T) 0 else if a = 5 then ((K.length / 4 : Nat) : Int) else if a = 6 then (hc : Int) else if a = 7 then (nu : Int) else -1
theorem x_hasq (D : Nat) {s : Mem} {K : List Int} {hc nu : Nat} (hx : XM s T w) (ht : Tf T) (hw : Wf T w) (hK : KX s K) (hh : rI s 66 2 = (hc : Int)) (hn : rI s 44 2 = (nu : Int)) (a : Int) : f_X_has (D + 2) a s = some (sHas T w K hc nu a, s) := by
  have hg := ht.2.2.1
  have en := hx.1.n
  have eg := hx.1.g
  rw [hx.2] at en eg
  obtain ⟨c, hc2, hl, h1, -⟩ := hK
  obtain ⟨ab, b1, b2, b3⟩ := hx.1.2.2.2.1
  have hp : 2 ^ tG T ≤ 2 ^ 7 := Nat.pow_le_pow_right (by omega) hg
  have hp1 : 1 ≤ 2 ^ tG T := Nat.one_le_two_pow
  have e4 : w32 ((iShl 1 (tG T : Int)) - 1) = ((2 ^ tG T - 1 : Nat) : Int) := by
    rw [iShl_1 (by omega), w32_i (by omega) (by omega)]
    omega
  have s2 : ((pcn 10 ab : Nat) : Int) = sumF (fun q => w (1 + q)) 9 0 := by
    have t := hb_tab ⟨ab, b2⟩
    simp only [] at t
    have q0 := b3 0 (by omega)
    have q1 := b3 1 (by omega)
    have q2 := b3 2 (by omega)
    have q3 := b3 3 (by omega)
    have q4 := b3 4 (by omega)
    have q5 := b3 5 (by omega)
    have q6 := b3 6 (by omega)
    have q7 := b3 7 (by omega)
    have q8 := b3 8 (by omega)
    rw [t]
    simp only [sumF]
    rw [← q0, ← q1, ← q2, ← q3, ← q4, ← q5, ← q6, ← q7, ← q8]
    omega
  have s4 : swB T w (2 ^ tG T - 1) = sumF (fun k => w (11 + 2 * k)) (tG T) 0 := by
    unfold swB
    apply sumF_c
    intro i _ hi
    exact if_pos (all_tab ⟨tG T, by omega⟩ ⟨i, by omega⟩ (by show i < tG T; omega))
  unfold sHas
  rw [e_X_has, en, eg, e4, b1, x_bc (D) (by omega), x_swellsOf D hx.1 ht hw (by omega), hx.1.2.2.1, h1, hh, hn, Option.bind_some, Option.bind_some, s2, s4, hl, show 4 * c / 4 = c by omega]
  repeat' split
  all_goals rfl
theorem m_hoopMany (D : Nat) {s : Mem} (hws : MW s w) (hw : Wf T w) : ∀ (j c : Nat) (b : Int), c + j = 9 → 0 ≤ b → b ≤ c → L_M_hoopMany_4 D b (c : Int) s = some (b + sumF (fun q => w (1 + q)) j c, s)
  | 0, c, b, hj, h0, h1 => by
    rw [e_M_hoopMany_4, if_neg (by omega)]
    unfold sumF
    rw [Int.add_zero]
  | j + 1, c, b, hj, h0, h1 => by
    have e1 : w32 (1 + (c : Int)) = ((1 + c : Nat) : Int) := by rw [w32_i (by omega) (by omega)]; omega
    have hv := hw.2.1 c (by omega)
    have hsum : sumF (fun q => w (1 + q)) (j + 1) c = w (1 + c) + sumF (fun q => w (1 + q)) j (c + 1) := rfl
    rw [e_M_hoopMany_4, if_pos (by omega), e1, inB_n (by omega), Int.toNat_natCast, hws _ (by omega), w32_s (by omega), w32_i (by omega) (by omega), m_hoopMany D hws hw j (c + 1) _ (by omega) (by omega) (by omega), hsum, Int.add_assoc]
theorem m_swellAll (D : Nat) {s : Mem} (hm : MT s T) (hws : MW s w) (ht : Tf T) (hw : Wf T w) : ∀ (j c : Nat) (b : Int), c + j = tG T → 0 ≤ b → b ≤ 99 * c → L_M_swellAll_4 (D + 1) b (c : Int) s = some (b + sumF (fun k => w (11 + 2 * k)) j c, s)
  | 0, c, b, hj, h0, h1 => by
    rw [e_M_swellAll_4, m_g D hm, Option.bind_some, if_neg (by simp; omega)]
    unfold sumF
    rw [Int.add_zero]
  | j + 1, c, b, hj, h0, h1 => by
    have hg := ht.2.2.1
    have hv := (hw.2.2.1 c (by omega)).2
    have hsum : sumF (fun k => w (11 + 2 * k)) (j + 1) c = w (11 + 2 * c) + sumF (fun k => w (11 + 2 * k)) j (c + 1) := rfl
    rw [e_M_swellAll_4, m_g D hm, Option.bind_some, if_pos (by simp; omega), m_swellOf D hws (by omega), Option.bind_some]
    simp only []
    rw [w32_s (by omega), w32_i (by omega) (by omega), m_swellAll D hm hws ht hw j (c + 1) _ (by omega) (by omega) (by omega), hsum, Int.add_assoc]
theorem m_hasq (D : Nat) {s : Mem} {K : List Int} {hc nu : Nat} (hm : MM s T w) (ht : Tf T) (hw : Wf T w) (hK : MK s K) (hh : rI s 84 66 = (hc : Int)) (hn : rI s 84 70 = (nu : Int)) (a : Int) : f_M_has (D + 3) a s = some (sHas T w K hc nu a, s) := by
  obtain ⟨c, hc2, hl, h1, -⟩ := hK
  have e2 : f_M_hoopMany (D + 2) s = some (sumF (fun q => w (1 + q)) 9 0, s) := by
    have := m_hoopMany (T := T) (D + 1) hm.2.1 hw 9 0 0 rfl (by omega) (by omega)
    rw [Int.zero_add] at this
    exact (e_M_hoopMany (D + 1) s).trans this
  have e4 : f_M_swellAll (D + 2) s = some (sumF (fun k => w (11 + 2 * k)) (tG T) 0, s) := by
    have := m_swellAll D hm.1 hm.2.1 ht hw (tG T) 0 0 (by omega) (by omega) (by omega)
    rw [Int.zero_add] at this
    exact (e_M_swellAll (D + 1) s).trans this
  unfold sHas
  rw [e_M_has, m_n (D + 1) hm.1, m_g (D + 1) hm.1, e2, e4, Option.bind_some, Option.bind_some, Option.bind_some, Option.bind_some, hm.2.1 0 (by omega), h1, hh, hn, hl, show 4 * c / 4 = c by omega]
  repeat' split
  all_goals rfl
end ROW
