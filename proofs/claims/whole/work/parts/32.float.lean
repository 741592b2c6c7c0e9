/-! ## no NaN -/
theorem sp_n64 : ∀ k, k < 7 → 1 ≤ k → ∀ m, m < 145 → vf_n64 (FP.ddiv (FP.i2d (nI m)) (FP.i2d (nI k))) := by
  unfold vf_n64
  decide +kernel
theorem sp_n32_0 : ∀ k, k < 22 → ∀ m, m < 217 → vf_n32 (FP.fdiv (FP.i2f (nI m)) (FP.i2f (nI (k + 1)))) := by
  unfold vf_n32
  decide +kernel
theorem sp_n32_1 : ∀ k, k < 22 → ∀ m, m < 217 → vf_n32 (FP.fdiv (FP.i2f (nI m)) (FP.i2f (nI (k + 23)))) := by
  unfold vf_n32
  decide +kernel
theorem sp_n32_2 : ∀ k, k < 22 → ∀ m, m < 217 → vf_n32 (FP.fdiv (FP.i2f (nI m)) (FP.i2f (nI (k + 45)))) := by
  unfold vf_n32
  decide +kernel
theorem sp_n32_3 : ∀ k, k < 22 → ∀ m, m < 217 → vf_n32 (FP.fdiv (FP.i2f (nI m)) (FP.i2f (nI (k + 67)))) := by
  unfold vf_n32
  decide +kernel
theorem sp_n32_4 : ∀ k, k < 22 → ∀ m, m < 217 → vf_n32 (FP.fdiv (FP.i2f (nI m)) (FP.i2f (nI (k + 89)))) := by
  unfold vf_n32
  decide +kernel
theorem sp_n32_5 : ∀ k, k < 22 → ∀ m, m < 217 → vf_n32 (FP.fdiv (FP.i2f (nI m)) (FP.i2f (nI (k + 111)))) := by
  unfold vf_n32
  decide +kernel
theorem sp_n32_6 : ∀ k, k < 22 → ∀ m, m < 217 → vf_n32 (FP.fdiv (FP.i2f (nI m)) (FP.i2f (nI (k + 133)))) := by
  unfold vf_n32
  decide +kernel
theorem sp_n32_7 : ∀ k, k < 22 → ∀ m, m < 217 → vf_n32 (FP.fdiv (FP.i2f (nI m)) (FP.i2f (nI (k + 155)))) := by
  unfold vf_n32
  decide +kernel
theorem sp_n32_8 : ∀ k, k < 22 → ∀ m, m < 217 → vf_n32 (FP.fdiv (FP.i2f (nI m)) (FP.i2f (nI (k + 177)))) := by
  unfold vf_n32
  decide +kernel
theorem sp_n32_9 : ∀ k, k < 22 → ∀ m, m < 217 → vf_n32 (FP.fdiv (FP.i2f (nI m)) (FP.i2f (nI (k + 199)))) := by
  unfold vf_n32
  decide +kernel
theorem sp_n32 {k m : Nat} (hk1 : 1 ≤ k) (hk : k < 217) (hm : m < 217) : vf_n32 (FP.fdiv (FP.i2f (nI m)) (FP.i2f (nI k))) := by
  by_cases h0 : k < 23
  · have h := sp_n32_0 (k - 1) (by omega) m hm
    rw [show k - 1 + 1 = k by omega] at h
    exact h
  by_cases h1 : k < 45
  · have h := sp_n32_1 (k - 23) (by omega) m hm
    rw [show k - 23 + 23 = k by omega] at h
    exact h
  by_cases h2 : k < 67
  · have h := sp_n32_2 (k - 45) (by omega) m hm
    rw [show k - 45 + 45 = k by omega] at h
    exact h
  by_cases h3 : k < 89
  · have h := sp_n32_3 (k - 67) (by omega) m hm
    rw [show k - 67 + 67 = k by omega] at h
    exact h
  by_cases h4 : k < 111
  · have h := sp_n32_4 (k - 89) (by omega) m hm
    rw [show k - 89 + 89 = k by omega] at h
    exact h
  by_cases h5 : k < 133
  · have h := sp_n32_5 (k - 111) (by omega) m hm
    rw [show k - 111 + 111 = k by omega] at h
    exact h
  by_cases h6 : k < 155
  · have h := sp_n32_6 (k - 133) (by omega) m hm
    rw [show k - 133 + 133 = k by omega] at h
    exact h
  by_cases h7 : k < 177
  · have h := sp_n32_7 (k - 155) (by omega) m hm
    rw [show k - 155 + 155 = k by omega] at h
    exact h
  by_cases h8 : k < 199
  · have h := sp_n32_8 (k - 177) (by omega) m hm
    rw [show k - 177 + 177 = k by omega] at h
    exact h
  by_cases h9 : k < 221
  · have h := sp_n32_9 (k - 199) (by omega) m hm
    rw [show k - 199 + 199 = k by omega] at h
    exact h
  omega
