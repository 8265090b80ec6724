section MULTI
variable {p : Program} {l : Launch} {e : Env} {R : Room} {s : State} {m : MethodId} {args : Array Value} {below : List Frame} {meth : Method} {c : Code} {w rt ml : Nat} {cc : ByteArray} {Dg : va_G} {cA : Nat → ClassId} {B : BS} {scr : Prop} {xs : Nat → Int} {L : Nat} {d : Nat} {ph : Bool} {n0 : Nat} {Q : State → Prop} {r : Int × Mem}
theorem allB_at {n : Nat} {f : Nat → Bool} (h : allB n f = true) {i : Nat} (hi : i < n) : f i = true := by
  induction n with
  | zero => omega
  | succ n ih =>
    unfold allB at h
    simp only [Bool.and_eq_true] at h
    rcases Nat.lt_or_ge i n with q | q
    · exact ih h.2 q
    · have : i = n := by omega
      rw [this]; exact h.1
theorem slN_rows {o b : Nat} : ∀ (n : Nat), (∀ i, i < n → nthL layL (o + i) = some (20, b)) → slN (o + n) = slN o + n * b
  | 0, _ => by simp
  | n + 1, h => by
    have ih := slN_rows n (fun i hi => h i (by omega))
    show slN (o + n) + szO (o + n) = _
    have : szO (o + n) = b := by unfold szO; rw [h n (by omega)]; rfl
    rw [ih, this, Nat.succ_mul, Nat.add_assoc]
/-- several cells, one behind the other -/
theorem wsE_more {base : Nat} {σ σ' : Mem} {n : Nat} (hN : rN σ' = rN σ + n) (ho : ∀ a, a < rN σ → (∀ k, rI σ' a k = rI σ a k) ∧ ∀ k, rP σ' a k = rP σ a k) : wsE cA base σ ++ (List.range n).map (fun i => (base + (rN σ + i), cellE cA base σ' (rN σ + i))) = wsE cA base σ' := by
  unfold wsE
  rw [hN, List.range_add, List.map_append, List.map_map]
  congr 1
  apply List.map_congr_left
  intro a ha
  have hl := List.mem_range.mp ha
  rw [cellE_same (ho a hl).1 (ho a hl).2]
theorem k_multi (C0 : CX p s m args meth c w rt ml cc Dg cA B scr xs L R d n0 r) {pc : Nat} {ls : Lc} {st : List AV} {σ : Mem} {k t : Nat} {a b : Int} (hd : decode cc pc = .ok (.multianewarray k 2, 4)) (hm : mulT w k = some t) (ha : 0 ≤ a) (hb0 : 0 ≤ b) (hc : rowsAt (rN σ) t a.toNat b.toNat = true) (hph : ph = false) (hk : AK p l e R s m args below meth c ml Dg cA B scr ph n0 Q r (pc + 4) ls (vr t a.toNat (rN σ) :: st) (wRows σ (rN σ) a.toNat)) : AK p l e R s m args below meth c ml Dg cA B scr ph n0 Q r pc ls (.inl b :: .inl a :: st) σ := by
  sorry
end MULTI
