/-! at the start -/
def Mz : Mem := (fun _ _ => 0, fun _ _ => 0, fun _ _ => 0, fun _ _ => 0)
def Ms : Mem := m_Mo (m_BM Mz)
theorem ms_D : gD Ms = fun _ _ => 0 := rfl
theorem ms_WC1 : (gR Ms 1 0 = 2 ∧ gR Ms 1 3 = 3 ∧ gR Ms 1 4 = 5 ∧ gR Ms 3 2 = 4) ∧ (gR Ms 5 0 = 6 ∧ gR Ms 5 1 = 8 ∧ gR Ms 5 2 = 20 ∧ gR Ms 5 3 = 25 ∧ gR Ms 5 11 = 26 ∧ gR Ms 5 12 = 27) ∧ (gR Ms 8 1 = 9 ∧ gR Ms 8 2 = 12 ∧ gR Ms 8 3 = 13 ∧ gR Ms 8 4 = 14 ∧ gR Ms 8 5 = 15 ∧ gR Ms 8 6 = 10 ∧ gR Ms 8 7 = 11) ∧ (gR Ms 12 2 = 16 ∧ gR Ms 13 2 = 17 ∧ gR Ms 14 2 = 18 ∧ gR Ms 15 2 = 19) ∧ (gR Ms 20 1 = 21 ∧ gR Ms 20 2 = 22 ∧ gR Ms 20 3 = 23 ∧ gR Ms 20 4 = 24) := by decide +kernel
theorem ms_WC2 : ∀ L, L < 25 → gR Ms (100 + L) 8 = 100 + L + 30 ∧ gR Ms (100 + L) 10 = 100 + L + 60 ∧ gR Ms (100 + L) 11 = 100 + L + 90 ∧ gR Ms (100 + L) 13 = 100 + L + 120 := by decide +kernel
theorem ms_MW : ∀ j, j < 45 → (8 ≤ j → j ≤ 15 → gR Ms 250 j = 243 + j) ∧ (28 ≤ j → j ≤ 44 → gR Ms 250 j = 231 + j) := by decide +kernel
theorem ms_ln : ∀ i, i < 25 → ln Ms i = if i < 24 then 101 + i else 100 := by decide +kernel
theorem ms_I : (gI Ms 1 1 = 0 ∧ gI Ms 1 2 = -1 ∧ gI Ms 250 1 = 0 ∧ gI Ms 250 3 = -1 ∧ gI Ms 250 27 = 0 ∧ gI Ms 250 24 = 0 ∧ gI Ms 250 25 = 0 ∧ gI Ms 6 0 = 0 ∧ gR Ms 6 1 = 7) ∧ (gI Ms 5 8 = gI Ms 250 16 ∧ gI Ms 5 9 = gI Ms 250 17 ∧ gI Ms 5 10 = gI Ms 250 26 ∧ gI Ms 20 0 = gI Ms 250 23 ∧ gI Ms 5 5 = gI Ms 250 22 ∧ gI Ms 5 6 - gI Ms 5 7 = gI Ms 250 21) ∧ gI Ms 5 4 = 0 ∧ gI Ms 250 18 = 0 := by decide +kernel
theorem ms_253 : ∀ k, k < 24 → gI Ms 253 k = 0 := by decide +kernel
theorem ms_mat : ∀ m, m < 3 → gI Ms (12 + m) 0 = 0 ∧ gI Ms (12 + m) 1 = 0 ∧ gI Ms 269 m = 0 ∧ gI Ms 270 m = 0 := by decide +kernel
theorem okd_z : okd 0 := by show _ ≤ _; decide
theorem Inv_s : Inv Ms := by
  obtain ⟨⟨i1, i2, i3, i4, i5, i6, i7, i8, i9⟩, r1, r2, r3⟩ := ms_I
  refine ⟨[], [], [], ⟨⟨by simp, i1, fun k hk => absurd hk (Nat.not_lt_zero k), fun k hk => absurd hk (Nat.not_lt_zero k)⟩, ⟨by simp, i3, fun k hk => absurd hk (Nat.not_lt_zero k), fun k hk => absurd hk (Nat.not_lt_zero k)⟩, i2.trans i4.symm⟩, ⟨⟨ms_WC1.1, ms_WC1.2.1, ms_WC1.2.2.1, ms_WC1.2.2.2.1, ms_WC1.2.2.2.2, fun L h1 h2 => ?_⟩, fun j h1 h2 => (ms_MW j (by omega)).1 h1 h2, fun j h1 h2 => (ms_MW j (by omega)).2 h1 h2⟩, ⟨⟨Nat.zero_le _, i8, i9, fun i hi => ?_, fun i j hi hj he => ?_, fun i v d hp => (by cases hp)⟩, ⟨rfl, List.nodup_nil, fun k hk => (by cases hk), fun k hk _ => ms_253 k hk, fun i k v d hi => (by cases hi)⟩, ⟨fun e he => (by cases he), List.Pairwise.nil⟩, PLd_nil⟩, ⟨fun i => by rw [ms_D]; exact okd_z, gD Ms 260, [], 0, ⟨rfl, rfl, fun _ _ _ _ => rfl, fun _ _ _ _ => rfl, fun _ _ _ _ => rfl⟩, ⟨rfl, i5, by omega, i6, Nat.zero_le _, trivial⟩, i7, Nat.zero_le _, trivial⟩, r1, ⟨0, r2, r3, Nat.zero_le _, fun k hk => absurd hk (Nat.not_lt_zero k)⟩, fun i hi => by rw [ms_D]; exact dz_rfl _, fun m hm => ⟨0, 0, (ms_mat m hm).1, (ms_mat m hm).2.1, (ms_mat m hm).2.2.1, (ms_mat m hm).2.2.2, Nat.zero_le _, Nat.zero_le _, fun i j hi => absurd hi (Nat.not_lt_zero i)⟩⟩
  · have := ms_WC2 (L - 100) (by omega)
    rw [show 100 + (L - 100) = L by omega] at this
    exact this
  · rw [ms_ln i hi]
    split <;> omega
  · rw [ms_ln i hi, ms_ln j hj] at he
    split at he <;> split at he <;> omega
