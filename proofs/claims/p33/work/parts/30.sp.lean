/-! LAYER 2: what each method answers, over the memory alone. -/
/-- the diary's rows are as they should be; c: how many calls there were at most -/
def OKd (c : Int) (M : am_M) : Prop :=
  (0 ≤ M 1 7 ∧ M 1 7 ≤ 60) ∧ (∀ i, 0 ≤ i → i < M 1 7 → (0 ≤ M 2 i ∧ M 2 i ≤ 9999) ∧ (-999 ≤ M 3 i ∧ M 3 i ≤ 999) ∧ (M 4 i = 0 ∨ M 4 i = 1)) ∧ (∀ i j, 0 ≤ i → i < j → j < M 1 7 → M 2 i < M 2 j) ∧
  (0 ≤ M 6 0 ∧ M 6 0 ≤ 500) ∧ (1 ≤ M 6 1 ∧ M 6 1 ≤ 2000) ∧ (M 6 2 = 0 ∨ M 6 2 = 1) ∧ (0 ≤ M 1 8 ∧ M 1 8 ≤ 8) ∧ (∀ k, 0 ≤ k → k < M 1 8 → (0 ≤ M 7 k ∧ M 7 k ≤ 9999) ∧ (-999 ≤ M 8 k ∧ M 8 k ≤ 999)) ∧ (0 ≤ M 1 9 ∧ M 1 9 ≤ c) ∧ (0 ≤ M 1 10 ∧ M 1 10 ≤ 60 * c) ∧ (0 ≤ c ∧ c ≤ 1000)
/-- the number of a point's stretch, by its place -/
def sn (M : am_M) : Nat → Int
  | 0 => 0
  | i + 1 => sn M i + (if M 6 1 < M 2 ((i : Int) + 1) - M 2 (i : Int) then 1 else 0)
/-- the stretches' row is up to date -/
def OKs (M : am_M) : Prop := ∀ i : Nat, (i : Int) < M 1 7 → M 5 (i : Int) = sn M i
theorem sn_b (M : am_M) : ∀ i : Nat, 0 ≤ sn M i ∧ sn M i ≤ (i : Int)
  | 0 => by simp [sn]
  | i + 1 => by
    have h := sn_b M i
    simp only [sn]
    split <;> omega
theorem OKs_b {M : am_M} (h : OKs M) {i : Int} (h0 : 0 ≤ i) (h1 : i < M 1 7) : 0 ≤ M 5 i ∧ M 5 i ≤ i := by
  obtain ⟨k, rfl⟩ := Int.eq_ofNat_of_zero_le h0
  rw [h k h1]
  exact sn_b M k
theorem sp_isTime {a : Int} {M : am_M} {Q : Int → am_M → Prop} (ha : am_rg a) (h1 : 0 ≤ a ∧ a ≤ 9999 → Q 1 M) (h0 : ¬ (0 ≤ a ∧ a ≤ 9999) → Q 0 M) : wp_X5_isTime a M Q := by
  unfold wp_X5_isTime
  refine ⟨ha, fun c => h0 (by omega), fun c => ⟨ha, fun c => h0 (by omega), fun c => h1 (by omega)⟩⟩
theorem sp_sameStretch {a b : Int} {M : am_M} {Q : Int → am_M → Prop} {c : Int} (hd : OKd c M) (hs : OKs M) (ha : am_rg a) (hb : am_rg b) (h1 : (0 ≤ a ∧ a < M 1 7) ∧ (0 ≤ b ∧ b < M 1 7) ∧ M 5 a = M 5 b → Q 1 M) (h0 : ¬ ((0 ≤ a ∧ a < M 1 7) ∧ (0 ≤ b ∧ b < M 1 7) ∧ M 5 a = M 5 b) → Q 0 M) : wp_X2_sameStretch a b M Q := by
  obtain ⟨⟨n0, n1⟩, -⟩ := hd
  unfold am_rg at ha hb
  unfold wp_X2_sameStretch am_rg
  repeat' (first | refine And.intro ?_ ?_ | intro _)
  all_goals first | omega | (apply h0; omega) | (apply h1; omega) | (have q := OKs_b hs (i := a) (by omega) (by omega); omega) | (have q := OKs_b hs (i := b) (by omega) (by omega); omega)
theorem sp_isValue {a : Int} {M : am_M} {Q : Int → am_M → Prop} (ha : am_rg a) (h1 : -999 ≤ a ∧ a ≤ 999 → Q 1 M) (h0 : ¬ (-999 ≤ a ∧ a ≤ 999) → Q 0 M) : wp_X5_isValue a M Q := by
  unfold wp_X5_isValue
  refine ⟨ha, fun c => h0 (by omega), fun c => ⟨ha, fun c => h0 (by omega), fun c => h1 (by omega)⟩⟩
theorem sp_hasPoint {a : Int} {M : am_M} {Q : Int → am_M → Prop} {c : Int} (hd : OKd c M) (ha : am_rg a) (h1 : 0 ≤ a ∧ a < M 1 7 → Q 1 M) (h0 : ¬ (0 ≤ a ∧ a < M 1 7) → Q 0 M) : wp_X2_hasPoint a M Q := by
  obtain ⟨⟨n0, n1⟩, -⟩ := hd
  unfold am_rg at ha
  unfold wp_X2_hasPoint am_rg
  repeat' (first | refine And.intro ?_ ?_ | intro _)
  all_goals first | omega | (apply h0; omega) | (apply h1; omega)
theorem OKd_t {c : Int} {M : am_M} (h : OKd c M) {i : Int} (h0 : 0 ≤ i) (h1 : i < M 1 7) : 0 ≤ M 2 i ∧ M 2 i ≤ 9999 := (h.2.1 i h0 h1).1
theorem OKd_v {c : Int} {M : am_M} (h : OKd c M) {i : Int} (h0 : 0 ≤ i) (h1 : i < M 1 7) : -999 ≤ M 3 i ∧ M 3 i ≤ 999 := (h.2.1 i h0 h1).2.1
theorem OKd_k {c : Int} {M : am_M} (h : OKd c M) {i : Int} (h0 : 0 ≤ i) (h1 : i < M 1 7) : M 4 i = 0 ∨ M 4 i = 1 := (h.2.1 i h0 h1).2.2
theorem sp_placeOf {t : Int} {M : am_M} {Q : Int → am_M → Prop} {c : Int} (hd : OKd c M) (ht : am_rg t) (hq : ∀ p, 0 ≤ p → p ≤ M 1 7 → (∀ i, 0 ≤ i → i < p → M 2 i < t) → (p < M 1 7 → t ≤ M 2 p) → Q p M) : wp_X2_placeOf t M Q := by
  have hd' := hd
  obtain ⟨⟨n0, n1⟩, -⟩ := hd'
  have loop : ∀ (r : Nat) (k : Int), 0 ≤ k → k + r = M 1 7 → (∀ i, 0 ≤ i → i < k → M 2 i < t) → wl_X2_placeOf_2 Q (r + 1) t k M := by
    intro r
    induction r with
    | zero =>
      intro k k0 hk hl
      refine ⟨by unfold am_rg; omega, by unfold am_rg; omega, fun q => ?_, fun q => absurd q (by omega)⟩
      exact hq _ n0 (Int.le_refl _) (fun i i0 i1 => hl i i0 (by omega)) (fun q => by omega)
    | succ r ih =>
      intro k k0 hk hl
      have hT := OKd_t hd k0 (by omega)
      refine ⟨by unfold am_rg; omega, by unfold am_rg; omega, fun q => absurd q (by omega), fun q => ⟨by omega, by unfold am_rg; omega, ht, fun q2 => ?_, fun q2 => ?_⟩⟩
      · refine ih (k + 1) (by omega) (by omega) (fun i i0 i1 => ?_)
        by_cases e : i = k
        · subst e; exact q2
        · exact hl i i0 (by omega)
      · exact hq k k0 (by omega) hl (fun _ => by omega)
  exact ⟨_, loop (M 1 7).toNat 0 (Int.le_refl _) (by omega) (fun i i0 i1 => by omega)⟩
theorem sp_hasTime {t : Int} {M : am_M} {Q : Int → am_M → Prop} {c : Int} (hd : OKd c M) (ht : am_rg t) (h1 : ∀ p, 0 ≤ p → p < M 1 7 → M 2 p = t → Q 1 M) (h0 : (∀ i, 0 ≤ i → i < M 1 7 → M 2 i ≠ t) → Q 0 M) : wp_X2_hasTime t M Q := by
  have hd' := hd
  obtain ⟨⟨n0, n1⟩, -, hsort, -⟩ := hd'
  refine sp_placeOf hd ht (fun p p0 p1 hl hg => ?_)
  refine sp_hasPoint hd (by unfold am_rg; omega) (fun q => ?_) (fun q => ?_)
  · have hT := OKd_t hd p0 q.2
    refine ⟨by unfold am_rg; omega, fun e => absurd e (by omega), fun _ => ⟨by omega, by unfold am_rg; omega, ht, fun e => ?_, fun e => ?_⟩⟩
    · refine h0 (fun i i0 i1 ei => ?_)
      have hg := hg q.2
      by_cases hi : i < p
      · have := hl i i0 hi; omega
      · by_cases hp : i = p
        · subst hp; exact e ei
        · have := hsort p i p0 (by omega) i1; omega
    · exact h1 p p0 q.2 (by omega)
  · refine ⟨by unfold am_rg; omega, fun _ => h0 (fun i i0 i1 ei => ?_), fun e => absurd rfl e⟩
    have := hl i i0 (by omega)
    omega
theorem sp_isKept {a : Int} {M : am_M} {Q : Int → am_M → Prop} {c : Int} (hd : OKd c M) (ha : am_rg a) (h1 : (0 ≤ a ∧ a < M 1 7) ∧ M 4 a = 1 → Q 1 M) (h0 : ¬ ((0 ≤ a ∧ a < M 1 7) ∧ M 4 a = 1) → Q 0 M) : wp_X2_isKept a M Q := by
  have hd' := hd
  obtain ⟨⟨n0, n1⟩, -⟩ := hd'
  refine sp_hasPoint hd ha (fun q => ?_) (fun q => ?_)
  · have hK := OKd_k hd q.1 q.2
    refine ⟨by unfold am_rg; omega, fun e => absurd e (by omega), fun _ => ⟨by omega, by unfold am_rg; omega, fun e => h0 (by omega), fun e => h1 (by omega)⟩⟩
  · exact ⟨by unfold am_rg; omega, fun _ => h0 (by omega), fun e => absurd rfl e⟩
theorem sp_isStep {M : am_M} {Q : Int → am_M → Prop} {c : Int} (hd : OKd c M) (h1 : M 6 2 = 1 → Q 1 M) (h0 : M 6 2 = 0 → Q 0 M) : wp_X2_isStep M Q := by
  obtain ⟨-, -, -, -, -, h, -⟩ := hd
  exact ⟨by unfold am_rg; omega, fun e => h0 (by omega), fun e => h1 (by omega)⟩
/-- the latest kept point below a place; -1 without one -/
def kb (M : am_M) : Nat → Int
  | 0 => -1
  | i + 1 => if M 4 (i : Int) = 1 then (i : Int) else kb M i
/-- the earliest kept point from n - r on -/
def kf (M : am_M) (n : Int) : Nat → Int
  | 0 => -1
  | r + 1 => if M 4 (n - ((r : Int) + 1)) = 1 then n - ((r : Int) + 1) else kf M n r
def nn (x : Int) : Int := if x = -1 then -1000000 else x
theorem kb_s (M : am_M) : ∀ p : Nat, (kb M p = -1 ∧ ∀ i, 0 ≤ i → i < (p : Int) → M 4 i ≠ 1) ∨ (0 ≤ kb M p ∧ kb M p < (p : Int) ∧ M 4 (kb M p) = 1 ∧ ∀ i, kb M p < i → i < (p : Int) → M 4 i ≠ 1)
  | 0 => Or.inl ⟨rfl, fun i i0 i1 => by omega⟩
  | p + 1 => by
    have ih := kb_s M p
    unfold kb
    split
    next e => exact Or.inr ⟨by omega, by omega, e, fun i i0 i1 => by omega⟩
    next e =>
      rcases ih with ⟨h1, h2⟩ | ⟨h1, h2, h3, h4⟩
      · refine Or.inl ⟨h1, fun i i0 i1 => ?_⟩
        by_cases hi : i = (p : Int)
        · subst hi; exact e
        · exact h2 i i0 (by omega)
      · refine Or.inr ⟨h1, by omega, h3, fun i i0 i1 => ?_⟩
        by_cases hi : i = (p : Int)
        · subst hi; exact e
        · exact h4 i i0 (by omega)
theorem kf_s (M : am_M) (n : Int) : ∀ r : Nat, (kf M n r = -1 ∧ ∀ i, n - (r : Int) ≤ i → i < n → M 4 i ≠ 1) ∨ (n - (r : Int) ≤ kf M n r ∧ kf M n r < n ∧ M 4 (kf M n r) = 1 ∧ ∀ i, n - (r : Int) ≤ i → i < kf M n r → M 4 i ≠ 1)
  | 0 => Or.inl ⟨rfl, fun i i0 i1 => by omega⟩
  | r + 1 => by
    have ih := kf_s M n r
    unfold kf
    split
    next e => exact Or.inr ⟨by omega, by omega, e, fun i i0 i1 => by omega⟩
    next e =>
      rcases ih with ⟨h1, h2⟩ | ⟨h1, h2, h3, h4⟩
      · refine Or.inl ⟨h1, fun i i0 i1 => ?_⟩
        by_cases hi : i = n - ((r : Int) + 1)
        · subst hi; exact e
        · exact h2 i (by omega) i1
      · refine Or.inr ⟨by omega, h2, h3, fun i i0 i1 => ?_⟩
        by_cases hi : i = n - ((r : Int) + 1)
        · subst hi; exact e
        · exact h4 i (by omega) i1
theorem sp_keptBelow {p : Int} {M : am_M} {Q : Int → am_M → Prop} {c : Int} (hd : OKd c M) (hp : 0 ≤ p ∧ p ≤ M 1 7) (hq : Q (nn (kb M p.toNat)) M) : wp_X2_keptBelow p M Q := by
  have hd' := hd
  obtain ⟨⟨n0, n1⟩, -⟩ := hd'
  have loop : ∀ r : Nat, (r : Int) ≤ M 1 7 → Q (nn (kb M r)) M → wl_X2_keptBelow_11 Q (r + 1) ((r : Int) - 1) M := by
    intro r
    induction r with
    | zero =>
      intro _ hq
      exact ⟨by unfold am_rg; omega, fun _ => hq, fun q => absurd q (by omega)⟩
    | succ r ih =>
      intro hr hq
      have e1 : ((r + 1 : Nat) : Int) - 1 = (r : Int) := by omega
      have hK := OKd_k hd (i := (r : Int)) (by omega) (by omega)
      rw [e1]
      refine ⟨by unfold am_rg; omega, fun q => absurd q (by omega), fun q => ⟨by omega, by unfold am_rg; omega, fun q2 => ?_, fun q2 => ?_⟩⟩
      · unfold kb at hq
        rw [if_neg q2] at hq
        exact ih (by omega) hq
      · unfold kb at hq
        rw [if_pos (by omega)] at hq
        unfold nn at hq
        rw [if_neg (by omega)] at hq
        exact hq
  refine ⟨by unfold am_rg; omega, by unfold am_rg; omega, p.toNat + 1, ?_⟩
  have e : (if M 1 7 < p then M 1 7 else p) - 1 = ((p.toNat : Nat) : Int) - 1 := by split <;> omega
  rw [e]
  exact loop p.toNat (by omega) hq
theorem sp_keptFrom {p : Int} {M : am_M} {Q : Int → am_M → Prop} {c : Int} (hd : OKd c M) (hp : 0 ≤ p ∧ p ≤ M 1 7) (hq : Q (nn (kf M (M 1 7) (M 1 7 - p).toNat)) M) : wp_X2_keptFrom p M Q := by
  have hd' := hd
  obtain ⟨⟨n0, n1⟩, -⟩ := hd'
  have loop : ∀ r : Nat, (r : Int) ≤ M 1 7 → Q (nn (kf M (M 1 7) r)) M → wl_X2_keptFrom_6 Q (r + 1) (M 1 7 - (r : Int)) M := by
    intro r
    induction r with
    | zero =>
      intro _ hq
      exact ⟨by unfold am_rg; omega, by unfold am_rg; omega, fun _ => hq, fun q => absurd q (by omega)⟩
    | succ r ih =>
      intro hr hq
      have e1 : M 1 7 - ((r + 1 : Nat) : Int) = M 1 7 - ((r : Int) + 1) := by omega
      have hK := OKd_k hd (i := M 1 7 - ((r : Int) + 1)) (by omega) (by omega)
      rw [e1]
      refine ⟨by unfold am_rg; omega, by unfold am_rg; omega, fun q => absurd q (by omega), fun q => ⟨by omega, by unfold am_rg; omega, fun q2 => ?_, fun q2 => ?_⟩⟩
      · unfold kf at hq
        rw [if_neg q2] at hq
        rw [show M 1 7 - ((r : Int) + 1) + 1 = M 1 7 - (r : Int) by omega]
        exact ih (by omega) hq
      · unfold kf at hq
        rw [if_pos (by omega)] at hq
        unfold nn at hq
        rw [if_neg (by omega)] at hq
        exact hq
  refine ⟨by unfold am_rg; omega, (M 1 7 - p).toNat + 1, ?_⟩
  have e : (if p < 0 then 0 else p) = M 1 7 - (((M 1 7 - p).toNat : Nat) : Int) := by rw [if_neg (by omega)]; omega
  rw [e]
  exact loop _ (by omega) hq
/-- how many are kept below a place -/
def kc (M : am_M) : Nat → Int
  | 0 => 0
  | i + 1 => kc M i + M 4 (i : Int)
theorem sp_keptPoints {M : am_M} {Q : Int → am_M → Prop} {c : Int} (hd : OKd c M) (hq : Q (kc M (M 1 7).toNat) M) : wp_X2_keptPoints M Q := by
  have hd' := hd
  obtain ⟨⟨n0, n1⟩, -⟩ := hd'
  have loop : ∀ (r : Nat) (k : Nat), (k : Int) + r = M 1 7 → wl_X2_keptPoints_4 Q (r + 1) (kc M k) (k : Int) M := by
    intro r
    induction r with
    | zero =>
      intro k hk
      refine ⟨by unfold am_rg; omega, by unfold am_rg; omega, fun _ => ?_, fun q => absurd q (by omega)⟩
      rw [show k = (M 1 7).toNat by omega]
      exact hq
    | succ r ih =>
      intro k hk
      refine ⟨by unfold am_rg; omega, by unfold am_rg; omega, fun q => absurd q (by omega), fun q => ⟨by omega, ?_⟩⟩
      exact ih (k + 1) (by omega)
  exact ⟨_, loop (M 1 7).toNat 0 (by omega)⟩
