theorem eb_plain : ∀ c, c < 20 → True ∧ eb_cn c ≠ "java/lang/invoke/MethodHandle" ∧ eb_cn c ≠ "java/lang/invoke/VarHandle" := by decide +kernel
theorem eb_pf : ∀ k, k < 306 → plainFor (eb_y k) = true := by decide +kernel
theorem eb_ow_lt : ∀ k, k < 306 → eb_ow k < 20 ∧ eb_ml k ≤ 40 := by decide +kernel
theorem eb_npL : ∀ k, k < 305 → (parseMethodDescriptor (eb_y k).desc).map (fun d => d.parameters.length) = some (eb_np k) := by decide +kernel
