/-! the text's own methods: length, charAt and what they call -/
section STRS
variable {p : Program} {l : Launch} {e : Env} {R : Room} {s : State} {m : MethodId} {args : Array Value} {below : List Frame} {meth : Method} {c : Code} {Dg : va_G} {cA : Nat → ClassId} {B : BS} {d : Nat} {ph : Bool}
def yCod : MethodName := ⟨"java/lang/String", "coder", "()B"⟩
def yLat : MethodName := ⟨"java/lang/String", "isLatin1", "()Z"⟩
def yL1c : MethodName := ⟨"java/lang/StringLatin1", "charAt", "([BI)C"⟩
def yChk : MethodName := ⟨"java/lang/String", "checkIndex", "(II)V"⟩
def yPci : MethodName := ⟨"jdk/internal/util/Preconditions", "checkIndex", "(IILjava/util/function/BiFunction;)I"⟩
theorem W_hs0 {N : Nat} {H : Heap} {locs : List Loc} {g : JFrame} {Q : State → Prop} (hbs : s.heap.size = N) (hS : va_S (fun q => B.1 ≤ q) s.heap H locs) (k : H.size = N → W p l e R s m args below meth c H locs 0 0 Q g) : W p l e R s m args below meth c H locs 0 0 Q g := by
  intro T hT X
  refine k ?_ T hT X
  have h1 := X.heapSize
  rw [hT] at h1
  have h2 := hS.1
  omega
theorem end_i {σ : Mem} {z : Int} {H : Heap} {locs : List Loc} (hM : okM ph σ) (hz : rng32 z) (hP : va_P Dg cls11 (wsE cA B.1 σ) H) (hS : va_S (fun q => B.1 ≤ q) s.heap H locs) : ∀ t : State, t.heap = H → s.WarmedH t.vm → QcR Dg cA B ph 1 (z, σ) args s (.returned (some (.int (Int32.ofInt z)))) t := by
  intro t ht hW
  unfold QcR
  rw [if_neg (by omega), if_pos (by omega)]
  exact ⟨⟨_, (), rfl, ⟨rfl, hz⟩, by rw [ht]; exact hP, hM⟩, hS.F ht⟩
theorem end_v {σ : Mem} {z : Int} {H : Heap} {locs : List Loc} (hM : okM ph σ) (hP : va_P Dg cls11 (wsE cA B.1 σ) H) (hS : va_S (fun q => B.1 ≤ q) s.heap H locs) : ∀ t : State, t.heap = H → s.WarmedH t.vm → QcR Dg cA B ph 0 (z, σ) args s (.returned none) t := by
  intro t ht hW
  unfold QcR
  rw [if_neg (by omega), if_neg (by omega)]
  exact ⟨⟨(), rfl, trivial, by rw [ht]; exact hP, hM⟩, hS.F ht⟩
theorem t_pci {σ : Mem} {k n : Int} {v : Value} (hv : v = .null ∨ ∃ t, v = .ref t) (hM : okM ph σ) (hk : 0 ≤ k ∧ k < n) (hn : n < 2147483648) : Met l yPci (ws0 yPci prog_20_method_11_code 3 (some .int)) (rmD (d + 1) 0 0) (va_Pc [.int (Int32.ofInt k), .int (Int32.ofInt n), v] (PcS Dg cA B σ)) (QcR Dg cA B ph 1 (k, σ)) 0 0 (fun q => B.1 ≤ q) := by
  have hrk : rng32 k := ⟨by omega, by omega⟩
  have hrn : rng32 n := ⟨by omega, by omega⟩
  have r0 : rng32 0 := ⟨by decide, by decide⟩
  rcases hv with rfl | ⟨tq, rfl⟩
  all_goals
    refine va_MetF (cc := prog_20_method_11_code) (maxL := 3) (ret := some .int) (by decide +kernel) rfl ?_
    intro p e s m args below meth c s₁ Bd hml hv
    obtain ⟨rfl, hsz, hP, hK, hN⟩ := hv
    have hx := Bd.exec
    have hb := Bd.bytes
    have hr := Bd.returns
    have hlocks := Bd.notSynchronized
    have hS : va_S (fun q => B.1 ≤ q) s.heap s.heap [] := va_S.rf
    rw [lg_entry_eq]
  · have hl := lv_entry ([.int (Int32.ofInt k), .int (Int32.ofInt n), .null]) (n := 3) (Nat.le_of_ble_eq_true rfl)
    generalize (lg_sl ([.int (Int32.ofInt k), .int (Int32.ofInt n), .null]) ++ List.replicate (3 - (lg_sl ([.int (Int32.ofInt k), .int (Int32.ofInt n), .null])).length) Slot.unset).toArray = ls at hl ⊢
    have hl : lv_has ls 3 [(0, .int (Int32.ofInt k)), (1, .int (Int32.ofInt n)), (2, .null)] := hl
    refine lv_iload_n (k := 0) hx hb (by decide +kernel) rfl (lv_at hl 0 rfl) ?_
    refine lv_if_lt (off := 8) (tgt := 9) hx hb (by decide +kernel) rfl (fun z => absurd z (nn_of hrk hk.1)) (fun _ => ?_)
    refine lv_iload_n (k := 0) hx hb (by decide +kernel) rfl (lv_at hl 0 rfl) ?_
    refine lv_iload_n (k := 1) hx hb (by decide +kernel) rfl (lv_at hl 1 rfl) ?_
    refine lv_icmp_lt (off := 10) (tgt := 16) hx hb (by decide +kernel) rfl (fun _ => ?_) (fun z => absurd ((i32_lt hrk hrn).mpr hk.2) z)
    refine lv_iload_n (k := 0) hx hb (by decide +kernel) rfl (lv_at hl 0 rfl) ?_
    exact W.iret hx hb hr (end_i hM hrk hP hS) (fun q hq => hS.2.2 q hq) (by decide +kernel) hlocks
  · have hl := lv_entry ([.int (Int32.ofInt k), .int (Int32.ofInt n), .ref tq]) (n := 3) (Nat.le_of_ble_eq_true rfl)
    generalize (lg_sl ([.int (Int32.ofInt k), .int (Int32.ofInt n), .ref tq]) ++ List.replicate (3 - (lg_sl ([.int (Int32.ofInt k), .int (Int32.ofInt n), .ref tq])).length) Slot.unset).toArray = ls at hl ⊢
    have hl : lv_has ls 3 [(0, .int (Int32.ofInt k)), (1, .int (Int32.ofInt n)), (2, .ref tq)] := hl
    refine lv_iload_n (k := 0) hx hb (by decide +kernel) rfl (lv_at hl 0 rfl) ?_
    refine lv_if_lt (off := 8) (tgt := 9) hx hb (by decide +kernel) rfl (fun z => absurd z (nn_of hrk hk.1)) (fun _ => ?_)
    refine lv_iload_n (k := 0) hx hb (by decide +kernel) rfl (lv_at hl 0 rfl) ?_
    refine lv_iload_n (k := 1) hx hb (by decide +kernel) rfl (lv_at hl 1 rfl) ?_
    refine lv_icmp_lt (off := 10) (tgt := 16) hx hb (by decide +kernel) rfl (fun _ => ?_) (fun z => absurd ((i32_lt hrk hrn).mpr hk.2) z)
    refine lv_iload_n (k := 0) hx hb (by decide +kernel) rfl (lv_at hl 0 rfl) ?_
    exact W.iret hx hb hr (end_i hM hrk hP hS) (fun q hq => hS.2.2 q hq) (by decide +kernel) hlocks
theorem rm_ok {D ml' mc ms mc' ms' : Nat} (h3 : ml' ≤ 40) : (rmD D mc ms).frames + 1 ≤ (rmD (D + 1) mc' ms').frames ∧ 8 + (ml' + 11) + (rmD D mc ms).locals ≤ (rmD (D + 1) mc' ms').locals := ⟨Nat.le_refl _, by show 8 + (ml' + 11) + D * 60 ≤ (D + 1) * 60; omega⟩
theorem t_chk {σ : Mem} {k n : Int} (hM : okM ph σ) (hk : 0 ≤ k ∧ k < n) (hn : n < 2147483648) : Met l yChk (ws0 yChk prog_16_method_155_code 2 none) (rmD (d + 2) 0 0) (va_Pc [.int (Int32.ofInt k), .int (Int32.ofInt n)] (PcS Dg cA B σ)) (QcR Dg cA B ph 0 (0, σ)) 0 0 (fun q => B.1 ≤ q) := by
  refine va_MetF (cc := prog_16_method_155_code) (maxL := 2) (ret := none) (by decide +kernel) rfl ?_
  intro p e s m args below meth c s₁ Bd hml hv
  obtain ⟨rfl, hsz, hP, hK, hN⟩ := hv
  have hx := Bd.exec
  have hb := Bd.bytes
  have hr := Bd.returns
  have hlocks := Bd.notSynchronized
  have hts0 := atoms_spec (ws := ws0 yChk prog_16_method_155_code 2 none) Bd.pre
  have hts := fun q (hq : q ∈ lwG) => hts0 q (List.mem_cons_of_mem _ hq)
  have hown : s.vm.findClass "java/lang/String" = some m.cls := findClass_of_methodNamed Bd.named
  have hS : va_S (fun q => B.1 ≤ q) s.heap s.heap [] := va_S.rf
  rw [lg_entry_eq]
  have hl := lv_entry ([.int (Int32.ofInt k), .int (Int32.ofInt n)]) (n := 2) (Nat.le_of_ble_eq_true rfl)
  generalize (lg_sl ([.int (Int32.ofInt k), .int (Int32.ofInt n)]) ++ List.replicate (2 - (lg_sl ([.int (Int32.ofInt k), .int (Int32.ofInt n)])).length) Slot.unset).toArray = ls at hl ⊢
  have hl : lv_has ls 2 [(0, .int (Int32.ofInt k)), (1, .int (Int32.ofInt n))] := hl
  refine lv_iload_n (k := 0) hx hb (by decide +kernel) rfl (lv_at hl 0 rfl) ?_
  refine lv_iload_n (k := 1) hx hb (by decide +kernel) rfl (lv_at hl 1 rfl) ?_
  obtain ⟨v, hv, hZ⟩ : ∃ v : Value, (v = .null ∨ ∃ t, v = .ref t) ∧ va_Z "jdk/internal/util/Preconditions" "SIOOBE_FORMATTER" "Ljava/util/function/BiFunction;" v (fun q => B.1 ≤ q) s s.heap := by
    rcases hN.2.2.2.2.2 with h | ⟨t, h⟩
    · exact ⟨_, Or.inl rfl, h⟩
    · exact ⟨_, Or.inr ⟨t, rfl⟩, h⟩
  refine va_gets hx hb hZ hS hown (hts _ sw_492) (fun _ h => h) (by decide +kernel) ?_
  have hpre : ∀ U : State, U.heap = s.heap → s.WarmedH U.vm → va_Pc [.int (Int32.ofInt k), .int (Int32.ofInt n), v] (PcS Dg cA B σ) [.int (Int32.ofInt k), .int (Int32.ofInt n), v].toArray U := fun U hU hW => ⟨rfl, by rw [hU]; exact hsz, by rw [hU]; exact hP, va_K.moved hW.alike hK, hN.warm hW hS hU⟩
  have hrun := va_runS (g := F0 m 5 ls [v, .int (Int32.ofInt n), .int (Int32.ofInt k)]) (e := e) (below := below) (meth := meth) (R := rmD (d + 2) 0 0) (locs := []) (cells := 0) (slots := 0) (As := [.int (Int32.ofInt k), .int (Int32.ofInt n), v]) (rest := []) ⟨hx, hb, hml, hown, hts⟩ (t_pci (l := l) (d := d) hv hM hk hn) ⟨callB_of 3 hts (good0 sw_496) rfl rfl rfl (hts _ sw_14) (hts _ sw_494) ⟨by decide, by decide, by decide +kernel⟩ (rm_ok (by decide)), hts _ sw_495⟩ ⟨blindS, hpre⟩ rfl rfl hl.1 rfl (Nat.le_of_ble_eq_true rfl) (by show decode prog_16_method_155_code 5 = .ok (.invokestatic 1059, 3); decide +kernel) ⟨Nat.zero_le _, Nat.zero_le _⟩
  unfold QcR at hrun
  rw [if_neg (by omega), if_pos (by omega)] at hrun
  refine va_calli (S := Unit) hrun hS (fun q _ h => h) (fun q h => h) (fun x u t H1 locs1 ht hvm hp hB hz hk1 hS1 => ?_)
  have hP1 : va_P Dg cls11 (wsE cA B.1 σ) H1 := by rw [← ht]; exact hB.1
  refine lv_pop hx hb (by decide +kernel) rfl ?_
  exact W.vret hx hb hr (end_v hM hP1 hS1) (fun q hq => hS1.2.2 q hq) (by decide +kernel) hlocks
def txtV (j : Nat) : Value := .int ((wordsL.map Int32.ofInt).getD j 0)
def PcT (Dg : va_G) (cA : Nat → ClassId) (B : BS) (σ : Mem) (sV : Nat) (U : State) : Prop := PcS Dg cA B σ U ∧ va_T .byte sV wordsL.length txtV (fun q => B.1 ≤ q) U U.heap
theorem blindT {as : List Value} {σ : Mem} {sV : Nat} : FrameBlind (va_Pc as (PcT Dg cA B σ sV)) := fun a U g mk q => ⟨q.1, (blindS (as := as) a U g mk ⟨q.1, q.2.1⟩).2, va_T.moved (u := U) (U := U.calling g mk a) (Vm.Alike.refl U.vm) q.2.2⟩
theorem words_ok : ∀ z ∈ wordsL, ((Int32.ofInt z &&& 255).toUInt32 % 65536).toInt32 = Int32.ofInt z ∧ narrow .char (.int (Int32.ofInt z)) = .int (Int32.ofInt z) ∧ -2147483648 ≤ z ∧ z < 2147483648 := by decide +kernel
theorem txt_at {k : Int} (hk : 0 ≤ k ∧ k < (wordsL.length : Int)) : txtV k.toNat = .int (Int32.ofInt (wordsL.getD k.toNat 0)) ∧ wordsL.getD k.toNat 0 ∈ wordsL := by
  have h : k.toNat < wordsL.length := by omega
  unfold txtV
  rw [List.getD_eq_getElem?_getD, List.getElem?_map, List.getElem?_eq_getElem h, List.getD_eq_getElem?_getD, List.getElem?_eq_getElem h]
  exact ⟨rfl, List.getElem_mem h⟩
theorem t_l1c {σ : Mem} {k : Int} {sV : Nat} (hM : okM ph σ) (hk : 0 ≤ k ∧ k < (wordsL.length : Int)) : Met l yL1c (ws0 yL1c prog_17_method_2_code 2 (some .char)) (rmD (d + 3) 0 0) (va_Pc [.ref sV, .int (Int32.ofInt k)] (PcT Dg cA B σ sV)) (QcR Dg cA B ph 1 (wordsL.getD k.toNat 0, σ)) 0 0 (fun q => B.1 ≤ q) := by
  have hn : (wordsL.length : Int) < 2147483648 := by decide +kernel
  have hrk : rng32 k := ⟨by omega, by omega⟩
  refine va_MetF (cc := prog_17_method_2_code) (maxL := 2) (ret := some .char) (by decide +kernel) rfl ?_
  intro p e s m args below meth c s₁ Bd hml hv
  obtain ⟨rfl, ⟨hsz, hP, hK, hN⟩, hT⟩ := hv
  have hx := Bd.exec
  have hb := Bd.bytes
  have hr := Bd.returns
  have hlocks := Bd.notSynchronized
  have hts0 := atoms_spec (ws := ws0 yL1c prog_17_method_2_code 2 (some .char)) Bd.pre
  have hts := fun q (hq : q ∈ lwG) => hts0 q (List.mem_cons_of_mem _ hq)
  have hown : s.vm.findClass "java/lang/StringLatin1" = some m.cls := findClass_of_methodNamed Bd.named
  have hS : va_S (fun q => B.1 ≤ q) s.heap s.heap [] := va_S.rf
  rw [lg_entry_eq]
  have hl := lv_entry ([.ref sV, .int (Int32.ofInt k)]) (n := 2) (Nat.le_of_ble_eq_true rfl)
  generalize (lg_sl ([.ref sV, .int (Int32.ofInt k)]) ++ List.replicate (2 - (lg_sl ([.ref sV, .int (Int32.ofInt k)])).length) Slot.unset).toArray = ls at hl ⊢
  have hl : lv_has ls 2 [(0, .ref sV), (1, .int (Int32.ofInt k))] := hl
  refine lv_iload_n (k := 1) hx hb (by decide +kernel) rfl (lv_at hl 1 rfl) ?_
  refine lv_aload_n (k := 0) hx hb (by decide +kernel) rfl (lv_at hl 0 rfl) ?_
  refine va_tlen (v := Int32.ofInt (wordsL.length : Int)) hx hb hT hS (by decide +kernel) (by decide +kernel) ?_
  have hpre : ∀ U : State, U.heap = s.heap → s.WarmedH U.vm → va_Pc [.int (Int32.ofInt k), .int (Int32.ofInt (wordsL.length : Int))] (PcS Dg cA B σ) [.int (Int32.ofInt k), .int (Int32.ofInt (wordsL.length : Int))].toArray U := fun U hU hW => ⟨rfl, by rw [hU]; exact hsz, by rw [hU]; exact hP, va_K.moved hW.alike hK, hN.warm hW hS hU⟩
  have hrun := va_runS (g := F0 m 3 ls [.int (Int32.ofInt (wordsL.length : Int)), .int (Int32.ofInt k)]) (e := e) (below := below) (meth := meth) (R := rmD (d + 3) 0 0) (locs := []) (cells := 0) (slots := 0) (As := [.int (Int32.ofInt k), .int (Int32.ofInt (wordsL.length : Int))]) (rest := []) ⟨hx, hb, hml, hown, hts⟩ (t_chk (l := l) (d := d) hM hk hn) ⟨callB_of 2 hts (good0 sw_491) rfl rfl rfl (hts _ sw_12) (hts _ sw_489) ⟨by decide, by decide, by decide +kernel⟩ (rm_ok (by decide)), hts _ sw_490⟩ ⟨blindS, hpre⟩ rfl rfl hl.1 rfl (Nat.le_of_ble_eq_true rfl) (by show decode prog_17_method_2_code 3 = .ok (.invokestatic 9, 3); decide +kernel) ⟨Nat.zero_le _, Nat.zero_le _⟩
  unfold QcR at hrun
  rw [if_neg (by omega), if_neg (by omega)] at hrun
  refine va_callv (S := Unit) hrun hS (fun q _ h => h) (fun q h => h) (fun u t H1 locs1 ht hvm hp hB hz hk1 hS1 => ?_)
  have hP1 : va_P Dg cls11 (wsE cA B.1 σ) H1 := by rw [← ht]; exact hB.1
  obtain ⟨h1, h2⟩ := txt_at hk
  obtain ⟨w1, w2, w3⟩ := words_ok _ h2
  refine lv_aload_n (k := 0) hx hb (by decide +kernel) rfl (lv_at hl 0 rfl) ?_
  refine lv_iload_n (k := 1) hx hb (by decide +kernel) rfl (lv_at hl 1 rfl) ?_
  refine va_tb hx hb hT hS1 (in_of hrk hk) (v := .int (Int32.ofInt (wordsL.getD k.toNat 0))) (by rw [cl_of hk.1 hrk, h1]) (by decide +kernel) ?_
  refine lv_sipush (n := 255) (v := 255) hx hb (by decide +kernel) (by decide) ?_
  refine lv_iand hx hb (by decide +kernel) ?_
  refine lv_i2c hx hb (by decide +kernel) w1 ?_
  exact W.zret hx hb hr w2 (end_i hM w3 hP1 hS1) (fun q hq => hS1.2.2 q hq) (by decide +kernel) hlocks
theorem t_cod {σ : Mem} (hM : okM ph σ) : Met l yCod (ws0 yCod prog_16_method_152_code 1 (some .byte)) (rmD (d + 1) 0 0) (va_Pc [.ref B.2.2] (PcS Dg cA B σ)) (QcR Dg cA B ph 1 (0, σ)) 0 0 (fun q => B.1 ≤ q) := by
  refine va_MetF (cc := prog_16_method_152_code) (maxL := 1) (ret := some .byte) (by decide +kernel) rfl ?_
  intro p e s m args below meth c s₁ Bd hml hv
  obtain ⟨rfl, hsz, hP, hK, hN⟩ := hv
  have hx := Bd.exec
  have hb := Bd.bytes
  have hr := Bd.returns
  have hlocks := Bd.notSynchronized
  have hts0 := atoms_spec (ws := ws0 yCod prog_16_method_152_code 1 (some .byte)) Bd.pre
  have hts := fun q (hq : q ∈ lwG) => hts0 q (List.mem_cons_of_mem _ hq)
  have hown : s.vm.findClass "java/lang/String" = some m.cls := findClass_of_methodNamed Bd.named
  have hS : va_S (fun q => B.1 ≤ q) s.heap s.heap [] := va_S.rf
  rw [lg_entry_eq]
  have hl := lv_entry ([.ref B.2.2]) (n := 1) (Nat.le_of_ble_eq_true rfl)
  generalize (lg_sl ([.ref B.2.2]) ++ List.replicate (1 - (lg_sl ([.ref B.2.2])).length) Slot.unset).toArray = ls at hl ⊢
  have hl : lv_has ls 1 [(0, .ref B.2.2)] := hl
  obtain ⟨sV, hV⟩ := hN.2.2.2.1
  refine va_gets hx hb hN.2.2.2.2.1 hS hown (hts _ sw_476) (fun _ h => h) (by decide +kernel) ?_
  refine lv_if_eq (off := 10) (tgt := 13) hx hb (by decide +kernel) rfl (fun z => absurd z (by decide)) (fun _ => ?_)
  refine lv_aload_n (k := 0) hx hb (by decide +kernel) rfl (lv_at hl 0 rfl) ?_
  refine vk_getf hx hb (hV.1 0 (by decide)).2.1 hS hown (hts _ sw_1875) (fun _ h => h) (by decide +kernel) ?_
  refine lv_goto (off := 4) (tgt := 14) hx hb (by decide +kernel) rfl ?_
  exact W.zret hx hb hr rfl (end_i (z := 0) hM ⟨by decide, by decide⟩ hP hS) (fun q hq => hS.2.2 q hq) (by decide +kernel) hlocks
theorem t_lat {σ : Mem} (hM : okM ph σ) : Met l yLat (ws0 yLat prog_16_method_154_code 1 (some .boolean)) (rmD (d + 1) 0 0) (va_Pc [.ref B.2.2] (PcS Dg cA B σ)) (QcR Dg cA B ph 1 (1, σ)) 0 0 (fun q => B.1 ≤ q) := by
  refine va_MetF (cc := prog_16_method_154_code) (maxL := 1) (ret := some .boolean) (by decide +kernel) rfl ?_
  intro p e s m args below meth c s₁ Bd hml hv
  obtain ⟨rfl, hsz, hP, hK, hN⟩ := hv
  have hx := Bd.exec
  have hb := Bd.bytes
  have hr := Bd.returns
  have hlocks := Bd.notSynchronized
  have hts0 := atoms_spec (ws := ws0 yLat prog_16_method_154_code 1 (some .boolean)) Bd.pre
  have hts := fun q (hq : q ∈ lwG) => hts0 q (List.mem_cons_of_mem _ hq)
  have hown : s.vm.findClass "java/lang/String" = some m.cls := findClass_of_methodNamed Bd.named
  have hS : va_S (fun q => B.1 ≤ q) s.heap s.heap [] := va_S.rf
  rw [lg_entry_eq]
  have hl := lv_entry ([.ref B.2.2]) (n := 1) (Nat.le_of_ble_eq_true rfl)
  generalize (lg_sl ([.ref B.2.2]) ++ List.replicate (1 - (lg_sl ([.ref B.2.2])).length) Slot.unset).toArray = ls at hl ⊢
  have hl : lv_has ls 1 [(0, .ref B.2.2)] := hl
  obtain ⟨sV, hV⟩ := hN.2.2.2.1
  refine va_gets hx hb hN.2.2.2.2.1 hS hown (hts _ sw_476) (fun _ h => h) (by decide +kernel) ?_
  refine lv_if_eq (off := 14) (tgt := 17) hx hb (by decide +kernel) rfl (fun z => absurd z (by decide)) (fun _ => ?_)
  refine lv_aload_n (k := 0) hx hb (by decide +kernel) rfl (lv_at hl 0 rfl) ?_
  refine vk_getf hx hb (hV.1 0 (by decide)).2.1 hS hown (hts _ sw_1875) (fun _ h => h) (by decide +kernel) ?_
  refine lv_if_ne (off := 7) (tgt := 17) hx hb (by decide +kernel) rfl (fun z => absurd rfl z) (fun _ => ?_)
  refine lv_iconst (n := 1) (v := 1) hx hb (by decide +kernel) (by decide) ?_
  refine lv_goto (off := 4) (tgt := 18) hx hb (by decide +kernel) rfl ?_
  exact W.zret hx hb hr rfl (end_i (z := 1) hM ⟨by decide, by decide⟩ hP hS) (fun q hq => hS.2.2 q hq) (by decide +kernel) hlocks
theorem t_len {σ : Mem} {tn to : Nat} : MetJ l ph (d + 2) yLen prog_16_method_54_code 1 (some .int) 1 [vr 24 tn to] σ ((wordsL.length : Int), σ) := by
  intro Dg cA B hM hV0
  rw [Nat.sub_self, Nat.sub_self]
  refine va_MetF (cc := prog_16_method_54_code) (maxL := 1) (ret := some .int) (by decide +kernel) rfl ?_
  intro p e s m args below meth c s₁ Bd hml hv
  obtain ⟨rfl, hsz, hP, hK, hN⟩ := hv
  have hx := Bd.exec
  have hb := Bd.bytes
  have hr := Bd.returns
  have hlocks := Bd.notSynchronized
  have hts0 := atoms_spec (ws := ws0 yLen prog_16_method_54_code 1 (some .int)) Bd.pre
  have hts := fun q (hq : q ∈ lwG) => hts0 q (List.mem_cons_of_mem _ hq)
  have hown : s.vm.findClass "java/lang/String" = some m.cls := findClass_of_methodNamed Bd.named
  have hS : va_S (fun q => B.1 ≤ q) s.heap s.heap [] := va_S.rf
  show W _ _ _ _ _ _ ([.ref B.2.2] : List Value).toArray _ _ _ _ _ _ _ _ (entryFrame m ([.ref B.2.2] : List Value).toArray 1)
  rw [lg_entry_eq]
  have hl := lv_entry ([.ref B.2.2]) (n := 1) (Nat.le_of_ble_eq_true rfl)
  generalize (lg_sl ([.ref B.2.2]) ++ List.replicate (1 - (lg_sl ([.ref B.2.2])).length) Slot.unset).toArray = ls at hl ⊢
  have hl : lv_has ls 1 [(0, .ref B.2.2)] := hl
  obtain ⟨sV, hV⟩ := hN.2.2.2.1
  refine lv_aload_n (k := 0) hx hb (by decide +kernel) rfl (lv_at hl 0 rfl) ?_
  refine vk_getf hx hb (hV.1 0 (by decide)).2.2.1 hS hown (hts _ sw_1874) (fun _ h => h) (by decide +kernel) ?_
  refine va_tlen (v := Int32.ofInt (wordsL.length : Int)) hx hb (hV.1 0 (by decide)).2.2.2 hS (by decide +kernel) (by decide +kernel) ?_
  refine lv_aload_n (k := 0) hx hb (by decide +kernel) rfl (lv_at hl 0 rfl) ?_
  have hpre : ∀ U : State, U.heap = s.heap → s.WarmedH U.vm → va_Pc [.ref B.2.2] (PcS Dg cA B σ) [.ref B.2.2].toArray U := fun U hU hW => ⟨rfl, by rw [hU]; exact hsz, by rw [hU]; exact hP, va_K.moved hW.alike hK, hN.warm hW hS hU⟩
  have hrun := va_runV (C := "java/lang/String") (g := F0 m 6 ls [.ref B.2.2, .int (Int32.ofInt (wordsL.length : Int))]) (e := e) (below := below) (meth := meth) (R := rmD (d + 2) 0 0) (locs := []) (cells := 0) (slots := 0) (b := B.2.2) (As := []) (rest := [.int (Int32.ofInt (wordsL.length : Int))]) ⟨hx, hb, hml, hown, hts⟩ (t_cod (l := l) (d := d) hM) ⟨callB_of 0 hts (good0 sw_475) rfl rfl rfl (hts _ sw_12) (hts _ sw_472) ⟨by decide, by decide, by decide +kernel⟩ (rm_ok (by decide)), hts _ sw_473, hts _ sw_474⟩ ⟨blindS, vk_recv (i := 0) hV (by decide) hS, hpre⟩ rfl rfl hl.1 rfl (Nat.le_of_ble_eq_true rfl) (by show decode prog_16_method_54_code 6 = .ok (.invokevirtual 335, 3); decide +kernel) ⟨Nat.zero_le _, Nat.zero_le _⟩
  unfold QcR at hrun
  rw [if_neg (by omega), if_pos (by omega)] at hrun
  refine va_calli (S := Unit) hrun hS (fun q _ h => h) (fun q h => h) (fun x u t H1 locs1 ht hvm hp hB hz hk1 hS1 => ?_)
  have hP1 : va_P Dg cls11 (wsE cA B.1 σ) H1 := by rw [← ht]; exact hB.1
  obtain ⟨rfl, -⟩ := hp
  refine lv_ishr hx hb (by decide +kernel) ?_
  refine W.eq (g2 := F0 m 10 ls [.int (Int32.ofInt (wordsL.length : Int))]) (by rw [show Int32.ofInt (wordsL.length : Int) >>> (Int32.ofInt 0 &&& 31) = Int32.ofInt (wordsL.length : Int) by decide +kernel]) ?_
  exact W.iret hx hb hr (end_i hM ⟨by decide +kernel, by decide +kernel⟩ hP1 hS1) (fun q hq => hS1.2.2 q hq) (by decide +kernel) hlocks
theorem t_chr {σ : Mem} {tn to : Nat} {k : Int} (hk : 0 ≤ k ∧ k < (wordsL.length : Int)) : MetJ l ph (d + 4) yChr prog_16_method_56_code 2 (some .char) 1 [vr 24 tn to, .inl k] σ (wordsL.getD k.toNat 0, σ) := by
  intro Dg cA B hM hV0
  rw [Nat.sub_self, Nat.sub_self]
  refine va_MetF (cc := prog_16_method_56_code) (maxL := 2) (ret := some .char) (by decide +kernel) rfl ?_
  intro p e s m args below meth c s₁ Bd hml hv
  obtain ⟨rfl, hsz, hP, hK, hN⟩ := hv
  have hx := Bd.exec
  have hb := Bd.bytes
  have hr := Bd.returns
  have hlocks := Bd.notSynchronized
  have hts0 := atoms_spec (ws := ws0 yChr prog_16_method_56_code 2 (some .char)) Bd.pre
  have hts := fun q (hq : q ∈ lwG) => hts0 q (List.mem_cons_of_mem _ hq)
  have hown : s.vm.findClass "java/lang/String" = some m.cls := findClass_of_methodNamed Bd.named
  have hS : va_S (fun q => B.1 ≤ q) s.heap s.heap [] := va_S.rf
  show W _ _ _ _ _ _ ([.ref B.2.2, .int (Int32.ofInt k)] : List Value).toArray _ _ _ _ _ _ _ _ (entryFrame m ([.ref B.2.2, .int (Int32.ofInt k)] : List Value).toArray 2)
  rw [lg_entry_eq]
  have hl := lv_entry ([.ref B.2.2, .int (Int32.ofInt k)]) (n := 2) (Nat.le_of_ble_eq_true rfl)
  generalize (lg_sl ([.ref B.2.2, .int (Int32.ofInt k)]) ++ List.replicate (2 - (lg_sl ([.ref B.2.2, .int (Int32.ofInt k)])).length) Slot.unset).toArray = ls at hl ⊢
  have hl : lv_has ls 2 [(0, .ref B.2.2), (1, .int (Int32.ofInt k))] := hl
  obtain ⟨sV, hV⟩ := hN.2.2.2.1
  obtain ⟨h1, h2⟩ := txt_at hk
  obtain ⟨w1, w2, w3⟩ := words_ok _ h2
  refine lv_aload_n (k := 0) hx hb (by decide +kernel) rfl (lv_at hl 0 rfl) ?_
  have hpre : ∀ U : State, U.heap = s.heap → s.WarmedH U.vm → va_Pc [.ref B.2.2] (PcS Dg cA B σ) [.ref B.2.2].toArray U := fun U hU hW => ⟨rfl, by rw [hU]; exact hsz, by rw [hU]; exact hP, va_K.moved hW.alike hK, hN.warm hW hS hU⟩
  have hrun := va_runV (C := "java/lang/String") (g := F0 m 1 ls [.ref B.2.2]) (e := e) (below := below) (meth := meth) (R := rmD (d + 4) 0 0) (locs := []) (cells := 0) (slots := 0) (b := B.2.2) (As := []) (rest := []) ⟨hx, hb, hml, hown, hts⟩ (t_lat (l := l) (d := d + 2) hM) ⟨callB_of 0 hts (good0 sw_485) rfl rfl rfl (hts _ sw_12) (hts _ sw_482) ⟨by decide, by decide, by decide +kernel⟩ (rm_ok (by decide)), hts _ sw_483, hts _ sw_484⟩ ⟨blindS, vk_recv (i := 0) hV (by decide) hS, hpre⟩ rfl rfl hl.1 rfl (Nat.le_of_ble_eq_true rfl) (by show decode prog_16_method_56_code 1 = .ok (.invokevirtual 492, 3); decide +kernel) ⟨Nat.zero_le _, Nat.zero_le _⟩
  unfold QcR at hrun
  rw [if_neg (by omega), if_pos (by omega)] at hrun
  refine va_calli (S := Unit) hrun hS (fun q _ h => h) (fun q h => h) (fun x u t H1 locs1 ht hvm hp hB hz hk1 hS1 => ?_)
  have hP1 : va_P Dg cls11 (wsE cA B.1 σ) H1 := by rw [← ht]; exact hB.1
  obtain ⟨rfl, -⟩ := hp
  refine lv_if_eq (off := 12) (tgt := 16) hx hb (by decide +kernel) rfl (fun z => absurd z (show ¬ Int32.ofInt 1 = 0 by decide)) (fun _ => ?_)
  refine lv_aload_n (k := 0) hx hb (by decide +kernel) rfl (lv_at hl 0 rfl) ?_
  refine vk_getf hx hb (hV.1 0 (by decide)).2.2.1 hS1 hown (hts _ sw_1874) (fun _ h => h) (by decide +kernel) ?_
  refine lv_iload_n (k := 1) hx hb (by decide +kernel) rfl (lv_at hl 1 rfl) ?_
  refine W_hs0 hsz hS1 fun hsz1 => ?_
  have hpre2 : ∀ U : State, U.heap = H1 → s.WarmedH U.vm → va_Pc [.ref sV, .int (Int32.ofInt k)] (PcT Dg cA B σ sV) [.ref sV, .int (Int32.ofInt k)].toArray U := fun U hU hW => ⟨rfl, ⟨by rw [hU]; exact hsz1, by rw [hU]; exact hP1, va_K.moved hW.alike hK, hN.warm hW hS1 hU⟩, by rw [hU]; exact va_T.moved hW.alike ((hV.1 0 (by decide)).2.2.2.kept hS1.2.1)⟩
  have hrun2 := va_runS (g := F0 m 12 ls [.int (Int32.ofInt k), .ref sV]) (e := e) (below := below) (meth := meth) (R := rmD (d + 4) 0 0) (locs := locs1) (cells := 0) (slots := 0) (As := [.ref sV, .int (Int32.ofInt k)]) (rest := []) ⟨hx, hb, hml, hown, hts⟩ (t_l1c (l := l) (d := d) hM hk) ⟨callB_of 2 hts (good0 sw_488) rfl rfl rfl (hts _ sw_13) (hts _ sw_486) ⟨by decide, by decide, by decide +kernel⟩ (rm_ok (by decide)), hts _ sw_487⟩ ⟨blindT, hpre2⟩ rfl rfl hl.1 rfl (Nat.le_of_ble_eq_true rfl) (by show decode prog_16_method_56_code 12 = .ok (.invokestatic 495, 3); decide +kernel) ⟨Nat.zero_le _, Nat.zero_le _⟩
  unfold QcR at hrun2
  rw [if_neg (by omega), if_pos (by omega)] at hrun2
  refine va_calli (S := Unit) hrun2 hS1 (fun q _ h => h) (fun q h => h) (fun x u t2 H2 locs2 ht2 hvm2 hp2 hB2 hz2 hk2 hS2 => ?_)
  have hP2 : va_P Dg cls11 (wsE cA B.1 σ) H2 := by rw [← ht2]; exact hB2.1
  obtain ⟨rfl, -⟩ := hp2
  exact W.zret hx hb hr w2 (end_i hM w3 hP2 hS2) (fun q hq => hS2.2.2 q hq) (by decide +kernel) hlocks
end STRS
