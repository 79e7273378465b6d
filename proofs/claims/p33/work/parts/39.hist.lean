/-! the history -/
theorem am_cp_r {M : am_M} {k0 k1 k : Nat} {n : Int} (h : k ≠ k1) : am_cp M k0 k1 n k = M k := by
  funext j
  unfold am_cp
  rw [if_neg (fun q => h q.1)]
theorem am_cp_s {M : am_M} {k0 k1 : Nat} {n j : Int} (h0 : 0 ≤ j) (h1 : j < n) : am_cp M k0 k1 n k1 j = M k0 j := by
  unfold am_cp
  rw [if_pos ⟨rfl, h0, h1⟩]
/-- the State at s into the State at d -/
def CP (d s : Nat) (M M' : am_M) : Prop := (∀ k, (k < d ∨ d + 7 < k) → M' k = M k) ∧ M' d 7 = M s 7 ∧ M' d 8 = M s 8 ∧ M' d 9 = M s 9 ∧ M' d 10 = M s 10 ∧ (∀ i, 0 ≤ i → i < 60 → M' (d + 1) i = M (s + 1) i ∧ M' (d + 2) i = M (s + 2) i ∧ M' (d + 3) i = M (s + 3) i ∧ M' (d + 4) i = M (s + 4) i) ∧ (∀ i, 0 ≤ i → i < 3 → M' (d + 5) i = M (s + 5) i) ∧ (∀ i, 0 ≤ i → i < 8 → M' (d + 6) i = M (s + 6) i ∧ M' (d + 7) i = M (s + 7) i)
theorem cp_16_1 {M : am_M} {Q : am_M → Prop} (hq : ∀ M', CP 16 1 M M' → Q M') : wp_X2_copyFrom_16_1 M Q := by
  unfold wp_X2_copyFrom_16_1
  refine hq _ ⟨fun k hk => ?_, ?_, ?_, ?_, ?_, fun i i0 i1 => ⟨?_, ?_, ?_, ?_⟩, fun i i0 i1 => ?_, fun i i0 i1 => ⟨?_, ?_⟩⟩
  · simp (disch := omega) only [am_up_r, am_cp_r]
  · simp (disch := omega) only [am_up_s, am_up_n, am_up_r, am_cp_r, am_cp_s]
  · simp (disch := omega) only [am_up_s, am_up_n, am_up_r, am_cp_r, am_cp_s]
  · simp (disch := omega) only [am_up_s, am_up_n, am_up_r, am_cp_r, am_cp_s]
  · simp (disch := omega) only [am_up_s, am_up_n, am_up_r, am_cp_r, am_cp_s]
  · simp (disch := omega) only [am_up_s, am_up_n, am_up_r, am_cp_r, am_cp_s]
  · simp (disch := omega) only [am_up_s, am_up_n, am_up_r, am_cp_r, am_cp_s]
  · simp (disch := omega) only [am_up_s, am_up_n, am_up_r, am_cp_r, am_cp_s]
  · simp (disch := omega) only [am_up_s, am_up_n, am_up_r, am_cp_r, am_cp_s]
  · simp (disch := omega) only [am_up_s, am_up_n, am_up_r, am_cp_r, am_cp_s]
  · simp (disch := omega) only [am_up_s, am_up_n, am_up_r, am_cp_r, am_cp_s]
  · simp (disch := omega) only [am_up_s, am_up_n, am_up_r, am_cp_r, am_cp_s]
theorem cp_24_1 {M : am_M} {Q : am_M → Prop} (hq : ∀ M', CP 24 1 M M' → Q M') : wp_X2_copyFrom_24_1 M Q := by
  unfold wp_X2_copyFrom_24_1
  refine hq _ ⟨fun k hk => ?_, ?_, ?_, ?_, ?_, fun i i0 i1 => ⟨?_, ?_, ?_, ?_⟩, fun i i0 i1 => ?_, fun i i0 i1 => ⟨?_, ?_⟩⟩
  · simp (disch := omega) only [am_up_r, am_cp_r]
  · simp (disch := omega) only [am_up_s, am_up_n, am_up_r, am_cp_r, am_cp_s]
  · simp (disch := omega) only [am_up_s, am_up_n, am_up_r, am_cp_r, am_cp_s]
  · simp (disch := omega) only [am_up_s, am_up_n, am_up_r, am_cp_r, am_cp_s]
  · simp (disch := omega) only [am_up_s, am_up_n, am_up_r, am_cp_r, am_cp_s]
  · simp (disch := omega) only [am_up_s, am_up_n, am_up_r, am_cp_r, am_cp_s]
  · simp (disch := omega) only [am_up_s, am_up_n, am_up_r, am_cp_r, am_cp_s]
  · simp (disch := omega) only [am_up_s, am_up_n, am_up_r, am_cp_r, am_cp_s]
  · simp (disch := omega) only [am_up_s, am_up_n, am_up_r, am_cp_r, am_cp_s]
  · simp (disch := omega) only [am_up_s, am_up_n, am_up_r, am_cp_r, am_cp_s]
  · simp (disch := omega) only [am_up_s, am_up_n, am_up_r, am_cp_r, am_cp_s]
  · simp (disch := omega) only [am_up_s, am_up_n, am_up_r, am_cp_r, am_cp_s]
theorem cp_32_1 {M : am_M} {Q : am_M → Prop} (hq : ∀ M', CP 32 1 M M' → Q M') : wp_X2_copyFrom_32_1 M Q := by
  unfold wp_X2_copyFrom_32_1
  refine hq _ ⟨fun k hk => ?_, ?_, ?_, ?_, ?_, fun i i0 i1 => ⟨?_, ?_, ?_, ?_⟩, fun i i0 i1 => ?_, fun i i0 i1 => ⟨?_, ?_⟩⟩
  · simp (disch := omega) only [am_up_r, am_cp_r]
  · simp (disch := omega) only [am_up_s, am_up_n, am_up_r, am_cp_r, am_cp_s]
  · simp (disch := omega) only [am_up_s, am_up_n, am_up_r, am_cp_r, am_cp_s]
  · simp (disch := omega) only [am_up_s, am_up_n, am_up_r, am_cp_r, am_cp_s]
  · simp (disch := omega) only [am_up_s, am_up_n, am_up_r, am_cp_r, am_cp_s]
  · simp (disch := omega) only [am_up_s, am_up_n, am_up_r, am_cp_r, am_cp_s]
  · simp (disch := omega) only [am_up_s, am_up_n, am_up_r, am_cp_r, am_cp_s]
  · simp (disch := omega) only [am_up_s, am_up_n, am_up_r, am_cp_r, am_cp_s]
  · simp (disch := omega) only [am_up_s, am_up_n, am_up_r, am_cp_r, am_cp_s]
  · simp (disch := omega) only [am_up_s, am_up_n, am_up_r, am_cp_r, am_cp_s]
  · simp (disch := omega) only [am_up_s, am_up_n, am_up_r, am_cp_r, am_cp_s]
  · simp (disch := omega) only [am_up_s, am_up_n, am_up_r, am_cp_r, am_cp_s]
theorem cp_40_1 {M : am_M} {Q : am_M → Prop} (hq : ∀ M', CP 40 1 M M' → Q M') : wp_X2_copyFrom_40_1 M Q := by
  unfold wp_X2_copyFrom_40_1
  refine hq _ ⟨fun k hk => ?_, ?_, ?_, ?_, ?_, fun i i0 i1 => ⟨?_, ?_, ?_, ?_⟩, fun i i0 i1 => ?_, fun i i0 i1 => ⟨?_, ?_⟩⟩
  · simp (disch := omega) only [am_up_r, am_cp_r]
  · simp (disch := omega) only [am_up_s, am_up_n, am_up_r, am_cp_r, am_cp_s]
  · simp (disch := omega) only [am_up_s, am_up_n, am_up_r, am_cp_r, am_cp_s]
  · simp (disch := omega) only [am_up_s, am_up_n, am_up_r, am_cp_r, am_cp_s]
  · simp (disch := omega) only [am_up_s, am_up_n, am_up_r, am_cp_r, am_cp_s]
  · simp (disch := omega) only [am_up_s, am_up_n, am_up_r, am_cp_r, am_cp_s]
  · simp (disch := omega) only [am_up_s, am_up_n, am_up_r, am_cp_r, am_cp_s]
  · simp (disch := omega) only [am_up_s, am_up_n, am_up_r, am_cp_r, am_cp_s]
  · simp (disch := omega) only [am_up_s, am_up_n, am_up_r, am_cp_r, am_cp_s]
  · simp (disch := omega) only [am_up_s, am_up_n, am_up_r, am_cp_r, am_cp_s]
  · simp (disch := omega) only [am_up_s, am_up_n, am_up_r, am_cp_r, am_cp_s]
  · simp (disch := omega) only [am_up_s, am_up_n, am_up_r, am_cp_r, am_cp_s]
theorem cp_48_1 {M : am_M} {Q : am_M → Prop} (hq : ∀ M', CP 48 1 M M' → Q M') : wp_X2_copyFrom_48_1 M Q := by
  unfold wp_X2_copyFrom_48_1
  refine hq _ ⟨fun k hk => ?_, ?_, ?_, ?_, ?_, fun i i0 i1 => ⟨?_, ?_, ?_, ?_⟩, fun i i0 i1 => ?_, fun i i0 i1 => ⟨?_, ?_⟩⟩
  · simp (disch := omega) only [am_up_r, am_cp_r]
  · simp (disch := omega) only [am_up_s, am_up_n, am_up_r, am_cp_r, am_cp_s]
  · simp (disch := omega) only [am_up_s, am_up_n, am_up_r, am_cp_r, am_cp_s]
  · simp (disch := omega) only [am_up_s, am_up_n, am_up_r, am_cp_r, am_cp_s]
  · simp (disch := omega) only [am_up_s, am_up_n, am_up_r, am_cp_r, am_cp_s]
  · simp (disch := omega) only [am_up_s, am_up_n, am_up_r, am_cp_r, am_cp_s]
  · simp (disch := omega) only [am_up_s, am_up_n, am_up_r, am_cp_r, am_cp_s]
  · simp (disch := omega) only [am_up_s, am_up_n, am_up_r, am_cp_r, am_cp_s]
  · simp (disch := omega) only [am_up_s, am_up_n, am_up_r, am_cp_r, am_cp_s]
  · simp (disch := omega) only [am_up_s, am_up_n, am_up_r, am_cp_r, am_cp_s]
  · simp (disch := omega) only [am_up_s, am_up_n, am_up_r, am_cp_r, am_cp_s]
  · simp (disch := omega) only [am_up_s, am_up_n, am_up_r, am_cp_r, am_cp_s]
theorem cp_56_1 {M : am_M} {Q : am_M → Prop} (hq : ∀ M', CP 56 1 M M' → Q M') : wp_X2_copyFrom_56_1 M Q := by
  unfold wp_X2_copyFrom_56_1
  refine hq _ ⟨fun k hk => ?_, ?_, ?_, ?_, ?_, fun i i0 i1 => ⟨?_, ?_, ?_, ?_⟩, fun i i0 i1 => ?_, fun i i0 i1 => ⟨?_, ?_⟩⟩
  · simp (disch := omega) only [am_up_r, am_cp_r]
  · simp (disch := omega) only [am_up_s, am_up_n, am_up_r, am_cp_r, am_cp_s]
  · simp (disch := omega) only [am_up_s, am_up_n, am_up_r, am_cp_r, am_cp_s]
  · simp (disch := omega) only [am_up_s, am_up_n, am_up_r, am_cp_r, am_cp_s]
  · simp (disch := omega) only [am_up_s, am_up_n, am_up_r, am_cp_r, am_cp_s]
  · simp (disch := omega) only [am_up_s, am_up_n, am_up_r, am_cp_r, am_cp_s]
  · simp (disch := omega) only [am_up_s, am_up_n, am_up_r, am_cp_r, am_cp_s]
  · simp (disch := omega) only [am_up_s, am_up_n, am_up_r, am_cp_r, am_cp_s]
  · simp (disch := omega) only [am_up_s, am_up_n, am_up_r, am_cp_r, am_cp_s]
  · simp (disch := omega) only [am_up_s, am_up_n, am_up_r, am_cp_r, am_cp_s]
  · simp (disch := omega) only [am_up_s, am_up_n, am_up_r, am_cp_r, am_cp_s]
  · simp (disch := omega) only [am_up_s, am_up_n, am_up_r, am_cp_r, am_cp_s]
theorem cp_1_16 {M : am_M} {Q : am_M → Prop} (hq : ∀ M', CP 1 16 M M' → Q M') : wp_X2_copyFrom_1_16 M Q := by
  unfold wp_X2_copyFrom_1_16
  refine hq _ ⟨fun k hk => ?_, ?_, ?_, ?_, ?_, fun i i0 i1 => ⟨?_, ?_, ?_, ?_⟩, fun i i0 i1 => ?_, fun i i0 i1 => ⟨?_, ?_⟩⟩
  · simp (disch := omega) only [am_up_r, am_cp_r]
  · simp (disch := omega) only [am_up_s, am_up_n, am_up_r, am_cp_r, am_cp_s]
  · simp (disch := omega) only [am_up_s, am_up_n, am_up_r, am_cp_r, am_cp_s]
  · simp (disch := omega) only [am_up_s, am_up_n, am_up_r, am_cp_r, am_cp_s]
  · simp (disch := omega) only [am_up_s, am_up_n, am_up_r, am_cp_r, am_cp_s]
  · simp (disch := omega) only [am_up_s, am_up_n, am_up_r, am_cp_r, am_cp_s]
  · simp (disch := omega) only [am_up_s, am_up_n, am_up_r, am_cp_r, am_cp_s]
  · simp (disch := omega) only [am_up_s, am_up_n, am_up_r, am_cp_r, am_cp_s]
  · simp (disch := omega) only [am_up_s, am_up_n, am_up_r, am_cp_r, am_cp_s]
  · simp (disch := omega) only [am_up_s, am_up_n, am_up_r, am_cp_r, am_cp_s]
  · simp (disch := omega) only [am_up_s, am_up_n, am_up_r, am_cp_r, am_cp_s]
  · simp (disch := omega) only [am_up_s, am_up_n, am_up_r, am_cp_r, am_cp_s]
theorem cp_1_24 {M : am_M} {Q : am_M → Prop} (hq : ∀ M', CP 1 24 M M' → Q M') : wp_X2_copyFrom_1_24 M Q := by
  unfold wp_X2_copyFrom_1_24
  refine hq _ ⟨fun k hk => ?_, ?_, ?_, ?_, ?_, fun i i0 i1 => ⟨?_, ?_, ?_, ?_⟩, fun i i0 i1 => ?_, fun i i0 i1 => ⟨?_, ?_⟩⟩
  · simp (disch := omega) only [am_up_r, am_cp_r]
  · simp (disch := omega) only [am_up_s, am_up_n, am_up_r, am_cp_r, am_cp_s]
  · simp (disch := omega) only [am_up_s, am_up_n, am_up_r, am_cp_r, am_cp_s]
  · simp (disch := omega) only [am_up_s, am_up_n, am_up_r, am_cp_r, am_cp_s]
  · simp (disch := omega) only [am_up_s, am_up_n, am_up_r, am_cp_r, am_cp_s]
  · simp (disch := omega) only [am_up_s, am_up_n, am_up_r, am_cp_r, am_cp_s]
  · simp (disch := omega) only [am_up_s, am_up_n, am_up_r, am_cp_r, am_cp_s]
  · simp (disch := omega) only [am_up_s, am_up_n, am_up_r, am_cp_r, am_cp_s]
  · simp (disch := omega) only [am_up_s, am_up_n, am_up_r, am_cp_r, am_cp_s]
  · simp (disch := omega) only [am_up_s, am_up_n, am_up_r, am_cp_r, am_cp_s]
  · simp (disch := omega) only [am_up_s, am_up_n, am_up_r, am_cp_r, am_cp_s]
  · simp (disch := omega) only [am_up_s, am_up_n, am_up_r, am_cp_r, am_cp_s]
theorem cp_1_32 {M : am_M} {Q : am_M → Prop} (hq : ∀ M', CP 1 32 M M' → Q M') : wp_X2_copyFrom_1_32 M Q := by
  unfold wp_X2_copyFrom_1_32
  refine hq _ ⟨fun k hk => ?_, ?_, ?_, ?_, ?_, fun i i0 i1 => ⟨?_, ?_, ?_, ?_⟩, fun i i0 i1 => ?_, fun i i0 i1 => ⟨?_, ?_⟩⟩
  · simp (disch := omega) only [am_up_r, am_cp_r]
  · simp (disch := omega) only [am_up_s, am_up_n, am_up_r, am_cp_r, am_cp_s]
  · simp (disch := omega) only [am_up_s, am_up_n, am_up_r, am_cp_r, am_cp_s]
  · simp (disch := omega) only [am_up_s, am_up_n, am_up_r, am_cp_r, am_cp_s]
  · simp (disch := omega) only [am_up_s, am_up_n, am_up_r, am_cp_r, am_cp_s]
  · simp (disch := omega) only [am_up_s, am_up_n, am_up_r, am_cp_r, am_cp_s]
  · simp (disch := omega) only [am_up_s, am_up_n, am_up_r, am_cp_r, am_cp_s]
  · simp (disch := omega) only [am_up_s, am_up_n, am_up_r, am_cp_r, am_cp_s]
  · simp (disch := omega) only [am_up_s, am_up_n, am_up_r, am_cp_r, am_cp_s]
  · simp (disch := omega) only [am_up_s, am_up_n, am_up_r, am_cp_r, am_cp_s]
  · simp (disch := omega) only [am_up_s, am_up_n, am_up_r, am_cp_r, am_cp_s]
  · simp (disch := omega) only [am_up_s, am_up_n, am_up_r, am_cp_r, am_cp_s]
theorem cp_1_40 {M : am_M} {Q : am_M → Prop} (hq : ∀ M', CP 1 40 M M' → Q M') : wp_X2_copyFrom_1_40 M Q := by
  unfold wp_X2_copyFrom_1_40
  refine hq _ ⟨fun k hk => ?_, ?_, ?_, ?_, ?_, fun i i0 i1 => ⟨?_, ?_, ?_, ?_⟩, fun i i0 i1 => ?_, fun i i0 i1 => ⟨?_, ?_⟩⟩
  · simp (disch := omega) only [am_up_r, am_cp_r]
  · simp (disch := omega) only [am_up_s, am_up_n, am_up_r, am_cp_r, am_cp_s]
  · simp (disch := omega) only [am_up_s, am_up_n, am_up_r, am_cp_r, am_cp_s]
  · simp (disch := omega) only [am_up_s, am_up_n, am_up_r, am_cp_r, am_cp_s]
  · simp (disch := omega) only [am_up_s, am_up_n, am_up_r, am_cp_r, am_cp_s]
  · simp (disch := omega) only [am_up_s, am_up_n, am_up_r, am_cp_r, am_cp_s]
  · simp (disch := omega) only [am_up_s, am_up_n, am_up_r, am_cp_r, am_cp_s]
  · simp (disch := omega) only [am_up_s, am_up_n, am_up_r, am_cp_r, am_cp_s]
  · simp (disch := omega) only [am_up_s, am_up_n, am_up_r, am_cp_r, am_cp_s]
  · simp (disch := omega) only [am_up_s, am_up_n, am_up_r, am_cp_r, am_cp_s]
  · simp (disch := omega) only [am_up_s, am_up_n, am_up_r, am_cp_r, am_cp_s]
  · simp (disch := omega) only [am_up_s, am_up_n, am_up_r, am_cp_r, am_cp_s]
theorem cp_1_48 {M : am_M} {Q : am_M → Prop} (hq : ∀ M', CP 1 48 M M' → Q M') : wp_X2_copyFrom_1_48 M Q := by
  unfold wp_X2_copyFrom_1_48
  refine hq _ ⟨fun k hk => ?_, ?_, ?_, ?_, ?_, fun i i0 i1 => ⟨?_, ?_, ?_, ?_⟩, fun i i0 i1 => ?_, fun i i0 i1 => ⟨?_, ?_⟩⟩
  · simp (disch := omega) only [am_up_r, am_cp_r]
  · simp (disch := omega) only [am_up_s, am_up_n, am_up_r, am_cp_r, am_cp_s]
  · simp (disch := omega) only [am_up_s, am_up_n, am_up_r, am_cp_r, am_cp_s]
  · simp (disch := omega) only [am_up_s, am_up_n, am_up_r, am_cp_r, am_cp_s]
  · simp (disch := omega) only [am_up_s, am_up_n, am_up_r, am_cp_r, am_cp_s]
  · simp (disch := omega) only [am_up_s, am_up_n, am_up_r, am_cp_r, am_cp_s]
  · simp (disch := omega) only [am_up_s, am_up_n, am_up_r, am_cp_r, am_cp_s]
  · simp (disch := omega) only [am_up_s, am_up_n, am_up_r, am_cp_r, am_cp_s]
  · simp (disch := omega) only [am_up_s, am_up_n, am_up_r, am_cp_r, am_cp_s]
  · simp (disch := omega) only [am_up_s, am_up_n, am_up_r, am_cp_r, am_cp_s]
  · simp (disch := omega) only [am_up_s, am_up_n, am_up_r, am_cp_r, am_cp_s]
  · simp (disch := omega) only [am_up_s, am_up_n, am_up_r, am_cp_r, am_cp_s]
theorem cp_1_56 {M : am_M} {Q : am_M → Prop} (hq : ∀ M', CP 1 56 M M' → Q M') : wp_X2_copyFrom_1_56 M Q := by
  unfold wp_X2_copyFrom_1_56
  refine hq _ ⟨fun k hk => ?_, ?_, ?_, ?_, ?_, fun i i0 i1 => ⟨?_, ?_, ?_, ?_⟩, fun i i0 i1 => ?_, fun i i0 i1 => ⟨?_, ?_⟩⟩
  · simp (disch := omega) only [am_up_r, am_cp_r]
  · simp (disch := omega) only [am_up_s, am_up_n, am_up_r, am_cp_r, am_cp_s]
  · simp (disch := omega) only [am_up_s, am_up_n, am_up_r, am_cp_r, am_cp_s]
  · simp (disch := omega) only [am_up_s, am_up_n, am_up_r, am_cp_r, am_cp_s]
  · simp (disch := omega) only [am_up_s, am_up_n, am_up_r, am_cp_r, am_cp_s]
  · simp (disch := omega) only [am_up_s, am_up_n, am_up_r, am_cp_r, am_cp_s]
  · simp (disch := omega) only [am_up_s, am_up_n, am_up_r, am_cp_r, am_cp_s]
  · simp (disch := omega) only [am_up_s, am_up_n, am_up_r, am_cp_r, am_cp_s]
  · simp (disch := omega) only [am_up_s, am_up_n, am_up_r, am_cp_r, am_cp_s]
  · simp (disch := omega) only [am_up_s, am_up_n, am_up_r, am_cp_r, am_cp_s]
  · simp (disch := omega) only [am_up_s, am_up_n, am_up_r, am_cp_r, am_cp_s]
  · simp (disch := omega) only [am_up_s, am_up_n, am_up_r, am_cp_r, am_cp_s]
