/-! the law from its entry to its loop -/
section ENTRY
def execG (xs : Nat → Int) (L : Nat) (Rk : Ky) (C : Cy) : Nat → Ky
  | 0 => Rk
  | k + 1 => stepF false xs L 11 3 c_Law_law (execG xs L Rk C k) C
theorem law_0 (xs : Nat → Int) (L : Nat) (Rk : Ky) (C : Cy) : execG xs L Rk C 10 0 [(0, vr 23 0 0)] [] mem0 = ((C 0 [vr 0 0 0] (wN mem0 1)).bind fun p1 => bif cellAt (rN p1.2) 10 0 then ((C 134 [vr 10 0 (rN p1.2)] (wN p1.2 (rN p1.2 + 1))).bind fun p2 => Rk 18 [(3, vi 0), (2, vr 10 0 (rN p1.2)), (1, vr 0 0 0), (0, vr 23 0 0)] [] p2.2) else none) := rfl
section S
variable {p : Program} {l : Launch} {e : Env} {R : Room} {s : State} {m : MethodId} {args : Array Value} {below : List Frame} {meth : Method} {c : Code} {Dg : va_G} {cA : Nat → ClassId} {B : BS} {xs : Nat → Int} {L : Nat} {d : Nat} {r : Int × Mem}
theorem execG_sound {C : Cy} {Rk : Ky} (C0 : CX p s m args meth c 11 3 4 code Dg cA B True xs L R d 0 r) (hC : CallOk C l false d) (hR : ∀ pc ls st σ, Rk pc ls st σ = some r → AK p l e R s m args below meth c 4 Dg cA B True false 0 (MQR Dg cA B false 3 0 r below args s) r pc ls st σ) : ∀ (k pc : Nat) (ls : Lc) (st : List AV) (σ : Mem), execG xs L Rk C k pc ls st σ = some r → AK p l e R s m args below meth c 4 Dg cA B True false 0 (MQR Dg cA B false 3 0 r below args s) r pc ls st σ
  | 0, _, _, _, _, h => hR _ _ _ _ h
  | k + 1, pc, ls, st, σ, h => by
    unfold execG stepF at h
    split at h
    · cases h
    · next i n lab e2 =>
      obtain ⟨hd, hi⟩ := chk_at chk_law e2
      have hk := step_sound (e := e) (below := below) C0 hC hd hi h (fun pc ls st σ => execG_sound C0 hC hR k pc ls st σ)
      exact ⟨hk.1, fun H locs lsR hn rel => hk.2 H locs lsR hn (rel.nrm lab)⟩
theorem W.qq {H : Heap} {locs : List Loc} {cells slots : Nat} {Q Q' : State → Prop} {g : JFrame} (h : W p l e R s m args below meth c H locs cells slots Q g) (hq : ∀ t, Q t → Q' t) : W p l e R s m args below meth c H locs cells slots Q' g := fun T hT X => by
  obtain ⟨t, a, b⟩ := h T hT X
  exact ⟨t, a, hq t b⟩
theorem okM_ft {σ : Mem} (h : okM true σ) : okM false σ := ⟨h.1, h.2.1, h.2.2.1, h.2.2.2.1, fun q => by cases q⟩
theorem okM_tf {σ : Mem} (h : okM false σ) (hs : okS σ) : okM true σ := ⟨h.1, h.2.1, h.2.2.1, h.2.2.2.1, fun _ => hs⟩
theorem mqr_ft {t : State} (h : MQR Dg cA B true 3 0 r below args s t) : MQR Dg cA B false 3 0 r below args s t := by
  obtain ⟨o, h1, h2, h3, h4⟩ := h
  refine ⟨o, h1, h2, ?_, h4⟩
  unfold QcR at h3 ⊢
  rw [if_neg (by decide), if_pos (Or.inr rfl)] at h3 ⊢
  obtain ⟨⟨x, u, g1, g2, g3, g4⟩, g5⟩ := h3
  exact ⟨⟨x, u, g1, g2, g3, okM_ft g4⟩, g5⟩
theorem mem_ls {α : Type} {a b c d : α} : ∀ q ∈ [a, b, c, d], q ∈ [d, c, b, a] := fun q h => by
  simp only [List.mem_cons, List.not_mem_nil, or_false] at h ⊢
  rcases h with h | h | h | h
  · exact Or.inr (Or.inr (Or.inr h))
  · exact Or.inr (Or.inr (Or.inl h))
  · exact Or.inr (Or.inl h)
  · exact Or.inl h
theorem law_AKg {tA tB s' : Mem} {va vb : Int} (C0 : ∀ (d : Nat) (r : Int × Mem), d ≤ 64 → rN r.2 = 159 → CX p s m args meth c 11 3 4 code Dg cA B True xs L R d 0 r) (e1 : cE 1500 5 0 [vr 0 0 0] (wN mem0 1) = some (va, tA)) (hA : rN tA = 84) (e2 : cE 1500 5 134 [vr 10 0 84] (wN tA 85) = some (vb, tB)) (hS : okS tB) (hs2 : runF true xs L 11 3 c_Law_law (cS true noX 0 60) 18 [(0, vr 23 0 0), (1, vr 0 0 0), (2, vr 10 0 84), (3, vi 0)] [] tB = some (1, s')) (hN : rN s' = 159) : AK p l e R s m args below meth c 4 Dg cA B True false 0 (MQR Dg cA B false 3 0 (1, s') below args s) (1, s') 0 [(0, vr 23 0 0)] [] mem0 := by
  have K18 := run_sound (e := e) (below := below) (C0 64 (1, s') (Nat.le_refl _) hN) (call_ok (l := l) 60) chk_law hs2
  refine execG_sound (Rk := fun pc ls st σ => @ite Rs (pc = 18 ∧ ls = [(3, vi 0), (2, vr 10 0 84), (1, vr 0 0 0), (0, vr 23 0 0)] ∧ st = [] ∧ σ = tB) (Classical.propDecidable _) (some (1, s')) none) (C0 9 (1, s') (by decide) hN) (callE_ok (l := l) 1500 5) (fun pc ls st σ h => ?_) 10 0 _ _ _ ?_
  · rcases ite_inv h with ⟨⟨h1, h2, h3, h4⟩, -⟩ | ⟨-, h⟩
    · subst h1 h2 h3 h4
      refine ⟨K18.1, fun H locs lsR hn rel => ?_⟩
      obtain ⟨q1, q2, q3, q4, q5, q6⟩ := rel
      refine (K18.2 H locs lsR hn ⟨q1, okM_tf q2 hS, q3, ⟨q4.1, q4.2.1, fun q hq => q4.2.2 q ?_⟩, fun q hq => q5 q (mem_ls q hq), q6⟩).qq (fun t => mqr_ft)
      obtain ⟨u, hu, rfl⟩ := List.mem_map.mp hq
      exact List.mem_map.mpr ⟨u, mem_ls u hu, rfl⟩
    · cases h
  · have e3 : cellAt 84 10 0 = true := by decide +kernel
    rw [law_0, e1, Option.bind_some]
    simp only []
    rw [hA, e3, cond_true, e2, Option.bind_some]
    exact if_pos ⟨rfl, rfl, rfl, rfl⟩
theorem law_AK (hL : L ≤ 3072) (hx : ∀ j, rng32 (xs j)) (C0 : ∀ (d : Nat) (r : Int × Mem), d ≤ 64 → rN r.2 = 159 → CX p s m args meth c 11 3 4 code Dg cA B True xs L R d 0 r) : ∃ r : Int × Mem, r.1 = 1 ∧ rN r.2 = 159 ∧ AK p l e R s m args below meth c 4 Dg cA B True false 0 (MQR Dg cA B false 3 0 r below args s) r 0 [(0, vr 23 0 0)] [] mem0 := by
  obtain ⟨s', hs⟩ := law_go 0 (L := L) (by omega) (fun j _ => hx j) L 0 sB (by omega) (by omega) b_inv
  have hs2 : runF true xs L 11 3 c_Law_law (cS true noX 0 60) 18 [(0, vr 23 0 0), (1, vr 0 0 0), (2, vr 10 0 84), (3, vi 0)] [] sB = some (1, s') := hs
  have hN : rN s' = 159 := (keep_run rfl (fun j as σ r => cS_keep 60 j as σ r) hs2).trans nB
  obtain ⟨va, ea⟩ := rsA_e
  obtain ⟨vb, eb⟩ := rsB_e
  exact ⟨(1, s'), rfl, hN, law_AKg C0 ea nA eb b_okS hs2 hN⟩
end S
end ENTRY
