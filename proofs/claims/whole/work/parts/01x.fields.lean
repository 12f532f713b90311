theorem in_0 : ∀ w ∈ u_ws R_0 F_0 2, w ∈ wG := by decide +kernel
theorem nm_0 : ∀ a, a < 2 → ∀ b, b < 2 → a ≠ b → (F_0 a).2.1 ≠ (F_0 b).2.1 := by decide +kernel
theorem tk_0 : ∀ k, k < 2 → parseFieldDescriptor (F_0 k).2.2.1 = some (ty_0 k) := by decide +kernel
theorem in_1 : ∀ w ∈ u_ws R_1 F_1 5, w ∈ wG := by decide +kernel
theorem nm_1 : ∀ a, a < 5 → ∀ b, b < 5 → a ≠ b → (F_1 a).2.1 ≠ (F_1 b).2.1 := by decide +kernel
theorem tk_1 : ∀ k, k < 5 → parseFieldDescriptor (F_1 k).2.2.1 = some (ty_1 k) := by decide +kernel
theorem in_2 : ∀ w ∈ u_ws R_2 F_2 4, w ∈ wG := by decide +kernel
theorem nm_2 : ∀ a, a < 4 → ∀ b, b < 4 → a ≠ b → (F_2 a).2.1 ≠ (F_2 b).2.1 := by decide +kernel
theorem tk_2 : ∀ k, k < 4 → parseFieldDescriptor (F_2 k).2.2.1 = some (ty_2 k) := by decide +kernel
theorem in_3 : ∀ w ∈ u_ws R_3 F_3 5, w ∈ wG := by decide +kernel
theorem nm_3 : ∀ a, a < 5 → ∀ b, b < 5 → a ≠ b → (F_3 a).2.1 ≠ (F_3 b).2.1 := by decide +kernel
theorem tk_3 : ∀ k, k < 5 → parseFieldDescriptor (F_3 k).2.2.1 = some (ty_3 k) := by decide +kernel
theorem in_4 : ∀ w ∈ u_ws R_4 F_4 3, w ∈ wG := by decide +kernel
theorem nm_4 : ∀ a, a < 3 → ∀ b, b < 3 → a ≠ b → (F_4 a).2.1 ≠ (F_4 b).2.1 := by decide +kernel
theorem tk_4 : ∀ k, k < 3 → parseFieldDescriptor (F_4 k).2.2.1 = some (ty_4 k) := by decide +kernel
theorem in_5 : ∀ w ∈ u_ws R_5 F_5 3, w ∈ wG := by decide +kernel
theorem nm_5 : ∀ a, a < 3 → ∀ b, b < 3 → a ≠ b → (F_5 a).2.1 ≠ (F_5 b).2.1 := by decide +kernel
theorem tk_5 : ∀ k, k < 3 → parseFieldDescriptor (F_5 k).2.2.1 = some (ty_5 k) := by decide +kernel
theorem in_6 : ∀ w ∈ u_ws R_6 F_6 13, w ∈ wG := by decide +kernel
theorem nm_6 : ∀ a, a < 13 → ∀ b, b < 13 → a ≠ b → (F_6 a).2.1 ≠ (F_6 b).2.1 := by decide +kernel
theorem tk_6 : ∀ k, k < 13 → parseFieldDescriptor (F_6 k).2.2.1 = some (ty_6 k) := by decide +kernel
theorem in_7 : ∀ w ∈ u_ws R_7 F_7 3, w ∈ wG := by decide +kernel
theorem nm_7 : ∀ a, a < 3 → ∀ b, b < 3 → a ≠ b → (F_7 a).2.1 ≠ (F_7 b).2.1 := by decide +kernel
theorem tk_7 : ∀ k, k < 3 → parseFieldDescriptor (F_7 k).2.2.1 = some (ty_7 k) := by decide +kernel
theorem in_8 : ∀ w ∈ u_ws R_8 F_8 2, w ∈ wG := by decide +kernel
theorem nm_8 : ∀ a, a < 2 → ∀ b, b < 2 → a ≠ b → (F_8 a).2.1 ≠ (F_8 b).2.1 := by decide +kernel
theorem tk_8 : ∀ k, k < 2 → parseFieldDescriptor (F_8 k).2.2.1 = some (ty_8 k) := by decide +kernel
theorem in_9 : ∀ w ∈ u_ws R_9 F_9 2, w ∈ wG := by decide +kernel
theorem nm_9 : ∀ a, a < 2 → ∀ b, b < 2 → a ≠ b → (F_9 a).2.1 ≠ (F_9 b).2.1 := by decide +kernel
theorem tk_9 : ∀ k, k < 2 → parseFieldDescriptor (F_9 k).2.2.1 = some (ty_9 k) := by decide +kernel
theorem in_10 : ∀ w ∈ u_ws R_10 F_10 17, w ∈ wG := by decide +kernel
theorem nm_10 : ∀ a, a < 17 → ∀ b, b < 17 → a ≠ b → (F_10 a).2.1 ≠ (F_10 b).2.1 := by decide +kernel
theorem tk_10 : ∀ k, k < 17 → parseFieldDescriptor (F_10 k).2.2.1 = some (ty_10 k) := by decide +kernel
theorem in_11 : ∀ w ∈ u_ws R_11 F_11 55, w ∈ wG := by decide +kernel
theorem nm_11 : ∀ a, a < 55 → ∀ b, b < 55 → a ≠ b → (F_11 a).2.1 ≠ (F_11 b).2.1 := by decide +kernel
theorem tk_11 : ∀ k, k < 55 → parseFieldDescriptor (F_11 k).2.2.1 = some (ty_11 k) := by decide +kernel
