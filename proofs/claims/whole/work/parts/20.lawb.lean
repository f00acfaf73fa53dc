/-! the world complete -/
theorem dm_alo : ∀ k ∈ dm, k ∈ alo := by decide +kernel
theorem RelN_Rel {E : EVT} {A : Mem} {H : Heap} (h : RelN E 180 A H) : Rel E A H := by
  intro k q hk
  simp only [wsL, List.getElem?_map, Option.map_eq_some_iff] at hk
  obtain ⟨x, hx, rfl⟩ := hk
  obtain ⟨i, hi⟩ := List.getElem?_of_mem (dm_alo x (List.mem_of_getElem? hx))
  have hl : i < 180 := by rw [← alo_len]; exact (List.getElem?_eq_some_iff.mp hi).1
  exact h.1 i _ (wsN_at E A hl hi)
/-- what OffE gives of the cells' apartness -/
theorem EO_of_off {E : EVT} (h : OffE E) (he : ∀ i j, enk i → enk j → ead E i = ead E j → i = j) : EO E := by
  refine ⟨fun i j hi hj hij => ?_, fun i hi => ?_, he⟩
  · obtain ⟨a, ha⟩ := List.getElem?_of_mem (dm_alo i (dm_mem hi))
    obtain ⟨b, hb⟩ := List.getElem?_of_mem (dm_alo j (dm_mem hj))
    rw [h a i ha, h b j hb] at hij
    have hab : a = b := by omega
    subst hab
    exact Option.some.inj (ha.symm.trans hb)
  · obtain ⟨a, ha⟩ := List.getElem?_of_mem (dm_alo i (dm_mem hi))
    rw [h a i ha]
    exact Nat.le_add_right _ _
