/-! the world complete -/
theorem dm_alo : ∀ k ∈ dm, k ∈ alo := by decide +kernel
theorem RelN_Rel {E : EVT} {A : Mem} {H : Heap} (h : RelN E 180 A H) : Rel E A H := by
  intro k q hk
  simp only [wsL, List.getElem?_map, Option.map_eq_some_iff] at hk
  obtain ⟨x, hx, rfl⟩ := hk
  obtain ⟨i, hi⟩ := List.getElem?_of_mem (dm_alo x (List.mem_of_getElem? hx))
  have hl : i < 180 := by rw [← alo_len]; exact (List.getElem?_eq_some_iff.mp hi).1
  exact h.1 i _ (wsN_at E A hl hi)
/-- what OffE gives of the cells' apartness -/
theorem EO_of_off {E : EVT} (h : OffE E) (he : ∀ i j, enk i → enk j → ead E i = ead E j → i = j) : EO E := by
  refine ⟨fun i j hi hj hij => ?_, fun i hi => ?_, he⟩
  · obtain ⟨a, ha⟩ := List.getElem?_of_mem (dm_alo i (dm_mem hi))
    obtain ⟨b, hb⟩ := List.getElem?_of_mem (dm_alo j (dm_mem hj))
    rw [h a i ha, h b j hb] at hij
    have hab : a = b := by omega
    subst hab
    exact Option.some.inj (ha.symm.trans hb)
  · obtain ⟨a, ha⟩ := List.getElem?_of_mem (dm_alo i (dm_mem hi))
    rw [h a i ha]
    exact Nat.le_add_right _ _
/-- the law's own script -/
def ScX (X : CXT) (E : EVT) (b L : Nat) (zs : Nat → Int32) : Prop := va_X b L zs (xs X) (xs X).heap ∧ b < (xs X).heap.size ∧ ¬ eA E b
section SC
variable {X : CXT} {E : EVT} {own : String} {cc : ByteArray} {A : Mem} {pc : Nat} {lv : List (Nat × Value)} {rest : List Value} {b L : Nat} {zs : Nat → Int32}
theorem g_aloadS (hX : Gd X E own cc) {k : Fin 4} {i : Nat} (hd : decode cc pc = .ok (.aload_n k, 1)) (hi : (k : Nat) = i) (j : Nat) (hj : lv[j]? = some (i, .ref b)) (kk : G X E A (pc + 1) lv (.ref b :: rest)) : G X E A pc lv rest := fun H locs ls h1 h2 h3 => lv_aload_n hX.1 hX.2.1 hd hi (lv_at h3 j hj) (kk H locs ls h1 h2 h3)
theorem g_slen (hX : Gd X E own cc) (hS : ScX X E b L zs) (hd : decode cc pc = .ok (.arraylength, 1)) (kk : G X E A (pc + 1) lv (.int (Int32.ofNat L) :: rest)) : G X E A pc lv (.ref b :: rest) := fun H locs ls h1 h2 h3 => va_slen hX.1 hX.2.1 hS.1 hS.2.1 hS.2.2 h2 hd (kk H locs ls h1 h2 h3)
theorem g_sld (hX : Gd X E own cc) (hS : ScX X E b L zs) {i : Int32} (hin : vp_in i L) (hd : decode cc pc = .ok (.iaload, 1)) (kk : G X E A (pc + 1) lv (.int (zs i.toNatClampNeg) :: rest)) : G X E A pc lv (.int i :: .ref b :: rest) := fun H locs ls h1 h2 h3 => va_sld hX.1 hX.2.1 hS.1 hS.2.1 hS.2.2 h2 hin hd (kk H locs ls h1 h2 h3)
end SC
