/-! ## the satisfaction, widened, is no NaN and equals itself -/
def sp_w64 (y : UInt64) : Prop := vf_n64 y ∧ FP.dcmp y y = some .eq
theorem sp_w64_0 : ∀ k, k < 22 → ∀ m, m < 217 → sp_w64 (FP.f2d (FP.fdiv (FP.i2f (nI m)) (FP.i2f (nI (k + 1))))) := by
  unfold sp_w64 vf_n64
  decide +kernel
theorem sp_w64_1 : ∀ k, k < 22 → ∀ m, m < 217 → sp_w64 (FP.f2d (FP.fdiv (FP.i2f (nI m)) (FP.i2f (nI (k + 23))))) := by
  unfold sp_w64 vf_n64
  decide +kernel
theorem sp_w64_2 : ∀ k, k < 22 → ∀ m, m < 217 → sp_w64 (FP.f2d (FP.fdiv (FP.i2f (nI m)) (FP.i2f (nI (k + 45))))) := by
  unfold sp_w64 vf_n64
  decide +kernel
theorem sp_w64_3 : ∀ k, k < 22 → ∀ m, m < 217 → sp_w64 (FP.f2d (FP.fdiv (FP.i2f (nI m)) (FP.i2f (nI (k + 67))))) := by
  unfold sp_w64 vf_n64
  decide +kernel
theorem sp_w64_4 : ∀ k, k < 22 → ∀ m, m < 217 → sp_w64 (FP.f2d (FP.fdiv (FP.i2f (nI m)) (FP.i2f (nI (k + 89))))) := by
  unfold sp_w64 vf_n64
  decide +kernel
theorem sp_w64_5 : ∀ k, k < 22 → ∀ m, m < 217 → sp_w64 (FP.f2d (FP.fdiv (FP.i2f (nI m)) (FP.i2f (nI (k + 111))))) := by
  unfold sp_w64 vf_n64
  decide +kernel
theorem sp_w64_6 : ∀ k, k < 22 → ∀ m, m < 217 → sp_w64 (FP.f2d (FP.fdiv (FP.i2f (nI m)) (FP.i2f (nI (k + 133))))) := by
  unfold sp_w64 vf_n64
  decide +kernel
theorem sp_w64_7 : ∀ k, k < 22 → ∀ m, m < 217 → sp_w64 (FP.f2d (FP.fdiv (FP.i2f (nI m)) (FP.i2f (nI (k + 155))))) := by
  unfold sp_w64 vf_n64
  decide +kernel
theorem sp_w64_8 : ∀ k, k < 22 → ∀ m, m < 217 → sp_w64 (FP.f2d (FP.fdiv (FP.i2f (nI m)) (FP.i2f (nI (k + 177))))) := by
  unfold sp_w64 vf_n64
  decide +kernel
theorem sp_w64_9 : ∀ k, k < 22 → ∀ m, m < 217 → sp_w64 (FP.f2d (FP.fdiv (FP.i2f (nI m)) (FP.i2f (nI (k + 199))))) := by
  unfold sp_w64 vf_n64
  decide +kernel
theorem la_fr {r : UInt32} (h : sp_fr r) : sp_w64 (FP.f2d r) := by
  rcases h with rfl | ⟨m, k, h1, h2, h3, rfl⟩
  · unfold sp_w64 vf_n64
    decide +kernel
  · obtain ⟨j, rfl⟩ : ∃ j, k = j + 1 := ⟨k - 1, by omega⟩
    rcases (by omega : j < 22 ∨ (22 ≤ j ∧ j < 44) ∨ (44 ≤ j ∧ j < 66) ∨ (66 ≤ j ∧ j < 88) ∨ (88 ≤ j ∧ j < 110) ∨ (110 ≤ j ∧ j < 132) ∨ (132 ≤ j ∧ j < 154) ∨ (154 ≤ j ∧ j < 176) ∨ (176 ≤ j ∧ j < 198) ∨ (198 ≤ j ∧ j < 220)) with h | h | h | h | h | h | h | h | h | h
    · exact sp_w64_0 j h m h3
    · obtain ⟨i, rfl⟩ : ∃ i, j = i + 22 := ⟨j - 22, by omega⟩
      exact sp_w64_1 i (by omega) m h3
    · obtain ⟨i, rfl⟩ : ∃ i, j = i + 44 := ⟨j - 44, by omega⟩
      exact sp_w64_2 i (by omega) m h3
    · obtain ⟨i, rfl⟩ : ∃ i, j = i + 66 := ⟨j - 66, by omega⟩
      exact sp_w64_3 i (by omega) m h3
    · obtain ⟨i, rfl⟩ : ∃ i, j = i + 88 := ⟨j - 88, by omega⟩
      exact sp_w64_4 i (by omega) m h3
    · obtain ⟨i, rfl⟩ : ∃ i, j = i + 110 := ⟨j - 110, by omega⟩
      exact sp_w64_5 i (by omega) m h3
    · obtain ⟨i, rfl⟩ : ∃ i, j = i + 132 := ⟨j - 132, by omega⟩
      exact sp_w64_6 i (by omega) m h3
    · obtain ⟨i, rfl⟩ : ∃ i, j = i + 154 := ⟨j - 154, by omega⟩
      exact sp_w64_7 i (by omega) m h3
    · obtain ⟨i, rfl⟩ : ∃ i, j = i + 176 := ⟨j - 176, by omega⟩
      exact sp_w64_8 i (by omega) m h3
    · obtain ⟨i, rfl⟩ : ∃ i, j = i + 198 := ⟨j - 198, by omega⟩
      exact sp_w64_9 i (by omega) m h3
