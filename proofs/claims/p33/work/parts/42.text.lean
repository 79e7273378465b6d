/-- the component's buffer is in order -/
def OKt (M : am_M) : Prop := (0 ≤ M 64 1 ∧ M 64 1 ≤ 60) ∧ ∀ i, 0 ≤ i → i < M 64 1 → 33 ≤ M 65 i ∧ M 65 i ≤ 126
