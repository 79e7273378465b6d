/-! stretches -/
theorem st_step {D : am_M} (hs : OKs D) {i : Int} (h0 : 0 ≤ i) (h1 : i + 1 < D 1 7) : D 5 (i + 1) = D 5 i + (if D 6 1 < D 2 (i + 1) - D 2 i then 1 else 0) := by
  obtain ⟨k, rfl⟩ := Int.eq_ofNat_of_zero_le h0
  have a := hs k (by omega)
  have b := hs (k + 1) (by omega)
  rw [show ((k + 1 : Nat) : Int) = (k : Int) + 1 by omega] at b
  rw [a, b]
  rfl
theorem st_0 {D : am_M} (hs : OKs D) (h : 0 < D 1 7) : D 5 0 = 0 := hs 0 h
theorem st_md {D : am_M} (hs : OKs D) {i : Int} (h0 : 0 ≤ i) : ∀ d : Nat, i + (d : Int) < D 1 7 → D 5 i ≤ D 5 (i + (d : Int))
  | 0, _ => by rw [show i + ((0 : Nat) : Int) = i by omega]; exact Int.le_refl _
  | d + 1, h => by
    have ih := st_md hs h0 d (by omega)
    have s := st_step hs (i := i + (d : Int)) (by omega) (by omega)
    rw [show i + ((d + 1 : Nat) : Int) = i + (d : Int) + 1 by omega]
    split at s <;> omega
theorem st_m {D : am_M} (hs : OKs D) {i j : Int} (h0 : 0 ≤ i) (h1 : i ≤ j) (h2 : j < D 1 7) : D 5 i ≤ D 5 j := by
  have h := st_md hs h0 (j - i).toNat (by omega)
  rw [show i + (((j - i).toNat : Nat) : Int) = j by omega] at h
  exact h
/-! the oaths that two points need -/
def ndn (D : am_M) (i j : Int) : Int := if sp_mx D i j (j - i - 1).toNat < 0 then 0 else sp_mx D i j (j - i - 1).toNat
def nd (D : am_M) (i j : Int) : Int := Int.tdiv (ndn D i j + sp_span D i j - 1) (sp_span D i j)
theorem ndn_b {c : Int} {D : am_M} (hd : OKd c D) {a b : Int} (h0 : 0 ≤ a) (h1 : a < b) (h2 : b < D 1 7) : 0 ≤ ndn D a b ∧ ndn D a b ≤ 39960000 := by
  have hx := mx_b hd h0 h1 h2 (b - a - 1).toNat (by omega)
  unfold ndn
  split <;> omega
theorem cl_le {a s o : Int} (ha : 0 ≤ a) (hs : 1 ≤ s) : Int.tdiv (a + s - 1) s ≤ o ↔ a ≤ o * s := by
  rw [Int.tdiv_eq_ediv_of_nonneg (by omega), ← Int.lt_add_one_iff, Int.ediv_lt_iff_lt_mul (by omega), Int.add_mul]
  omega
theorem cl_b {a s : Int} (ha : 0 ≤ a) (hs : 1 ≤ s) : 0 ≤ Int.tdiv (a + s - 1) s ∧ Int.tdiv (a + s - 1) s ≤ a := by
  refine ⟨Int.tdiv_nonneg (by omega) (by omega), (cl_le ha hs).mpr ?_⟩
  have := Int.mul_le_mul_of_nonneg_left hs ha
  omega
theorem nd_b {c : Int} {D : am_M} (hd : OKd c D) {a b : Int} (h0 : 0 ≤ a) (h1 : a < b) (h2 : b < D 1 7) : 0 ≤ nd D a b ∧ nd D a b ≤ 39960000 := by
  have hb := ndn_b hd h0 h1 h2
  have hs := span_b hd h0 h1 h2
  have := cl_b hb.1 hs.1
  unfold nd
  omega
theorem nd_le {c : Int} {D : am_M} (hd : OKd c D) {a b o : Int} (h0 : 0 ≤ a) (h1 : a < b) (h2 : b < D 1 7) (ho : 0 ≤ o) : nd D a b ≤ o ↔ jn D a b o := by
  have hb := ndn_b hd h0 h1 h2
  have hs := span_b hd h0 h1 h2
  have hx := mx_b hd h0 h1 h2 (b - a - 1).toNat (by omega)
  have hp := Int.mul_nonneg ho (by omega : 0 ≤ sp_span D a b)
  unfold nd
  rw [cl_le hb.1 hs.1]
  unfold jn ndn
  split <;> omega
def ND (D M : am_M) : Prop := ∀ i j, 0 ≤ i → i < j → j < D 1 7 → D 5 i = D 5 j → M 13 (i * 60 + j) = nd D i j
def NV (D M : am_M) : Prop := M 10 5 = 0 ∨ (M 10 5 = 1 ∧ ND D M)
/-- only the thinner's and the lines' own -/
def Fc (M M' : am_M) : Prop := ∀ k, (k < 9 ∨ 13 < k) → M' k = M k
theorem Fc_r {M : am_M} : Fc M M := fun _ _ => rfl
theorem Fc_t {A B C : am_M} (h : Fc A B) (g : Fc B C) : Fc A C := fun k hk => (g k hk).trans (h k hk)
theorem Fc_x {A B : am_M} {j : Nat} (hj : 9 ≤ j ∧ j ≤ 13) (h : Fx j A B) : Fc A B := fun k hk => h k (by omega)
theorem Fc_f {D A B : am_M} (hf : Fr8 D A) (h : Fc A B) : Fr8 D B := fun k h1 h2 => (h k (by omega)).trans (hf k h1 h2)
theorem dp_cell {a b : Int} {M : am_M} {Q : Int → am_M → Prop} (ha : 0 ≤ a ∧ a < 60) (hb : 0 ≤ b ∧ b < 60) (hq : Q (a * 60 + b) M) : wp_X4_cell a b M Q := by
  unfold wp_X4_cell
  refine ⟨by unfold am_rg; omega, fun e => absurd e (by omega), fun _ => ⟨by unfold am_rg; omega, fun e => absurd e (by omega), fun _ => ⟨by unfold am_rg; omega, fun e => absurd e (by omega), fun _ => ⟨by unfold am_rg; omega, fun e => absurd e (by omega), fun _ => ⟨by unfold am_rg; omega, fun e => absurd e (by omega), fun _ => hq⟩⟩⟩⟩⟩
theorem dp_roundedUp {a b : Int} {M : am_M} {Q : Int → am_M → Prop} (ha : 0 ≤ a ∧ a ≤ 39960000) (hb : 1 ≤ b ∧ b ≤ 9999) (hq : Q (Int.tdiv (a + b - 1) b) M) : wp_X5_roundedUp a b M Q :=
  ⟨by unfold am_rg; omega, fun e => absurd e (by omega), fun _ => ⟨⟨by unfold am_rg; omega, by unfold am_rg; omega, by omega⟩, hq⟩⟩
def PN (D M : am_M) (i j : Int) : Prop := ∀ a b, 0 ≤ a → a < b → b < D 1 7 → D 5 a = D 5 b → (a < i ∨ (a = i ∧ b < j)) → M 13 (a * 60 + b) = nd D a b
def Fn (M M' : am_M) : Prop := ∀ k, k ≠ 9 → k ≠ 13 → M' k = M k
theorem dp_findNeeds {D M : am_M} {Q : am_M → Prop} {c : Int} (hd : OKd c D) (hs : OKs D) (hf : Fr8 D M) (hv : NV D M) (hq : ∀ M', Fc M M' → M' 10 5 = 1 → ND D M' → M' 11 = M 11 → M' 12 = M 12 → Q M') : wp_X4_findNeeds M Q := by
  have hd' := hd
  obtain ⟨⟨n0, n1⟩, -⟩ := hd'
  have inner : ∀ (k10 : Int → am_M → Prop) (i : Int), 0 ≤ i → i < D 1 7 → (∀ M2, Fn M M2 → PN D M2 (i + 1) (i + 1 + 1) → k10 (i + 1) M2) → ∀ (r : Nat) (j : Int) (M1 : am_M), i < j → j + r = D 1 7 → Fn M M1 → PN D M1 i j → wl_X4_findNeeds_25 Q k10 (r + 1) i j M1 := by
    intro k10 i i0 i1 hk r
    induction r with
    | zero =>
      intro j M1 hj hr f1 hp
      have e1 : M1 1 7 = D 1 7 := by rw [f1 1 (by omega) (by omega)]; exact congrFun (fr_1 hf) 7
      refine ⟨by unfold am_rg; omega, by unfold am_rg; omega, fun _ => hk M1 f1 (fun a b a0 a1 a2 a3 a4 => ?_), fun q => absurd q (by omega)⟩
      exact hp a b a0 a1 a2 a3 (by omega)
    | succ r ih =>
      intro j M1 hj hr f1 hp
      have hf1 : Fr8 D M1 := fun k k1 k2 => (f1 k (by omega) (by omega)).trans (hf k k1 k2)
      have e1 : M1 1 7 = D 1 7 := congrFun (fr_1 hf1) 7
      refine ⟨by unfold am_rg; omega, by unfold am_rg; omega, fun q => absurd q (by omega), fun _ => ?_⟩
      refine dp_sameStretch hd hs hf1 (by unfold am_rg; omega) (by unfold am_rg; omega) (fun y => ⟨by unfold am_rg; omega, fun e => absurd e (by omega), fun _ => ?_⟩) (fun y => ⟨by unfold am_rg; omega, fun _ => hk M1 f1 (fun a b a0 a1 a2 a3 a4 => ?_), fun e => absurd rfl e⟩)
      · refine dp_findWorst hd hs hf1 i0 hj (by omega) y.2.2 (fun M2 f2 v1 v2 => ?_)
        refine dp_cell (by omega) (by omega) ?_
        have v1' : M2 9 1 = ndn D i j := v1
        have hb := ndn_b hd i0 hj (by omega)
        have hsp := span_b hd i0 hj (by omega)
        rw [v1', v2]
        refine dp_roundedUp hb (by omega) ⟨by omega, ?_⟩
        refine ih (j + 1) _ (by omega) (by omega) (fun k k9 k13 => by rw [am_up_r k13, f2 k k9, f1 k k9 k13]) (fun a b a0 a1 a2 a3 a4 => ?_)
        by_cases z : a = i ∧ b = j
        · obtain ⟨rfl, rfl⟩ := z
          rw [am_up_s]
          rfl
        · rw [am_up_n (by omega), f2 13 (by omega)]
          exact hp a b a0 a1 a2 a3 (by omega)
      · by_cases z : a = i ∧ j ≤ b
        · have h1 := st_m hs (i := i) (j := j) i0 (by omega) (by omega)
          have h2 := st_m hs (i := j) (j := b) (by omega) z.2 a2
          rw [z.1] at a3
          exact absurd ⟨⟨i0, by omega⟩, ⟨by omega, by omega⟩, by omega⟩ y
        · exact hp a b a0 a1 a2 a3 (by omega)
  have outer : ∀ (r : Nat) (i : Int) (M1 : am_M), 0 ≤ i → i + r = D 1 7 → Fn M M1 → PN D M1 i (i + 1) → wl_X4_findNeeds_10 Q (r + 1) i M1 := by
    intro r
    induction r with
    | zero =>
      intro i M1 i0 hr f1 hp
      have e1 : M1 1 7 = D 1 7 := by rw [f1 1 (by omega) (by omega)]; exact congrFun (fr_1 hf) 7
      refine ⟨by unfold am_rg; omega, by unfold am_rg; omega, fun _ => hq _ (fun k hk => ?_) (by rw [am_up_s]) (fun a b a0 a1 a2 a3 => ?_) ?_ ?_, fun q => absurd q (by omega)⟩
      · rw [am_up_r (by omega), f1 k (by omega) (by omega)]
      · rw [am_up_r (by omega)]
        exact hp a b a0 a1 a2 a3 (by omega)
      · rw [am_up_r (by omega), f1 11 (by omega) (by omega)]
      · rw [am_up_r (by omega), f1 12 (by omega) (by omega)]
    | succ r ih =>
      intro i M1 i0 hr f1 hp
      have e1 : M1 1 7 = D 1 7 := by rw [f1 1 (by omega) (by omega)]; exact congrFun (fr_1 hf) 7
      refine ⟨by unfold am_rg; omega, by unfold am_rg; omega, fun q => absurd q (by omega), fun _ => ⟨_, inner _ i i0 (by omega) (fun M2 g2 p2 => ih (i + 1) M2 (by omega) (by omega) g2 p2) r (i + 1) M1 (by omega) (by omega) f1 hp⟩⟩
  rcases hv with h | ⟨h, h2⟩
  · refine ⟨by unfold am_rg; omega, fun _ => ⟨_, outer (D 1 7).toNat 0 M (by omega) (by omega) (fun _ _ _ => rfl) (fun a b a0 a1 a2 a3 a4 => by omega)⟩, fun e => absurd h e⟩
  · exact ⟨by unfold am_rg; omega, fun e => absurd e (by omega), fun _ => hq M Fc_r h h2 rfl rfl⟩
/-! the fewest points -/
def jo (D : am_M) (o i k : Int) : Prop := i < k ∧ k < D 1 7 ∧ D 5 i = D 5 k ∧ jn D i k o
def FW (D : am_M) (o lo hi : Int) (f : Int → Int) : Prop := ∀ i, lo ≤ i → i < hi → ((∀ k, ¬ jo D o i k) ∧ f i = 1) ∨ (∃ k, jo D o i k ∧ f i = 1 + f k ∧ ∀ k', jo D o i k' → f i ≤ 1 + f k')
theorem FW_u {D : am_M} {o lo hi : Int} {f g : Int → Int} (hc : ∀ i k, lo ≤ i → i < hi → jo D o i k → k < hi) (hf : FW D o lo hi f) (hg : FW D o lo hi g) : ∀ (r : Nat) (i : Int), hi - i ≤ r → lo ≤ i → i < hi → f i = g i
  | 0, i, hr, _, _ => by omega
  | r + 1, i, hr, i0, i1 => by
    have ih := FW_u hc hf hg r
    rcases hf i i0 i1 with ⟨h1, h2⟩ | ⟨k, h1, h2, h3⟩
    · rcases hg i i0 i1 with ⟨g1, g2⟩ | ⟨k', g1, g2, g3⟩
      · omega
      · exact absurd g1 (h1 k')
    · rcases hg i i0 i1 with ⟨g1, g2⟩ | ⟨k', g1, g2, g3⟩
      · exact absurd h1 (g1 k)
      · have a1 := h3 k' g1
        have a2 := g3 k h1
        have b1 := hc i k i0 i1 h1
        have b2 := hc i k' i0 i1 g1
        have c1 := ih k (by have := h1.1; omega) (by have := h1.1; omega) b1
        have c2 := ih k' (by have := g1.1; omega) (by have := g1.1; omega) b2
        omega
theorem FW_b {D : am_M} {o lo hi : Int} {f : Int → Int} (hc : ∀ i k, lo ≤ i → i < hi → jo D o i k → k < hi) (hf : FW D o lo hi f) : ∀ (r : Nat) (i : Int), hi - i ≤ r → lo ≤ i → i < hi → 1 ≤ f i ∧ f i ≤ hi - i
  | 0, i, hr, _, _ => by omega
  | r + 1, i, hr, i0, i1 => by
    have ih := FW_b hc hf r
    rcases hf i i0 i1 with ⟨h1, h2⟩ | ⟨k, h1, h2, h3⟩
    · omega
    · have b1 := hc i k i0 i1 h1
      have c1 := ih k (by have := h1.1; omega) (by have := h1.1; omega) b1
      have := h1.1
      omega
theorem le_ex {P : Int → Prop} {f : Int → Int} {i : Int} : ∀ r : Nat, (∀ k, i < k → k ≤ i + (r : Int) → ¬ P k) ∨ (∃ k, i < k ∧ k ≤ i + (r : Int) ∧ P k ∧ ∀ k', i < k' → k' ≤ i + (r : Int) → P k' → f k ≤ f k')
  | 0 => Or.inl (fun k k0 k1 => by omega)
  | r + 1 => by
    by_cases hP : P (i + ((r + 1 : Nat) : Int))
    · rcases le_ex (P := P) (f := f) (i := i) r with h | ⟨k, k0, k1, k2, k3⟩
      · refine Or.inr ⟨_, by omega, by omega, hP, fun k' a b d => ?_⟩
        by_cases e : k' = i + ((r + 1 : Nat) : Int)
        · rw [e]; exact Int.le_refl _
        · exact absurd d (h k' a (by omega))
      · by_cases hl : f k ≤ f (i + ((r + 1 : Nat) : Int))
        · refine Or.inr ⟨k, k0, by omega, k2, fun k' a b d => ?_⟩
          by_cases e : k' = i + ((r + 1 : Nat) : Int)
          · rw [e]; exact hl
          · exact k3 k' a (by omega) d
        · refine Or.inr ⟨_, by omega, by omega, hP, fun k' a b d => ?_⟩
          by_cases e : k' = i + ((r + 1 : Nat) : Int)
          · rw [e]; exact Int.le_refl _
          · have := k3 k' a (by omega) d
            omega
    · rcases le_ex (P := P) (f := f) (i := i) r with h | ⟨k, k0, k1, k2, k3⟩
      · refine Or.inl (fun k a b d => ?_)
        by_cases e : k = i + ((r + 1 : Nat) : Int)
        · rw [e] at d; exact hP d
        · exact h k a (by omega) d
      · refine Or.inr ⟨k, k0, by omega, k2, fun k' a b d => ?_⟩
        by_cases e : k' = i + ((r + 1 : Nat) : Int)
        · rw [e] at d; exact absurd d hP
        · exact k3 k' a (by omega) d
theorem FW_ex' (D : am_M) (o : Int) : ∀ r : Nat, ∃ f, FW D o (D 1 7 - (r : Int)) (D 1 7) f
  | 0 => ⟨fun _ => 0, fun i i0 i1 => by omega⟩
  | r + 1 => by
    obtain ⟨f, hf⟩ := FW_ex' D o r
    have key : ∃ x, ((∀ k, ¬ jo D o (D 1 7 - ((r : Int) + 1)) k) ∧ x = 1) ∨ (∃ k, jo D o (D 1 7 - ((r : Int) + 1)) k ∧ x = 1 + f k ∧ ∀ k', jo D o (D 1 7 - ((r : Int) + 1)) k' → x ≤ 1 + f k') := by
      rcases le_ex (P := jo D o (D 1 7 - ((r : Int) + 1))) (f := f) (i := D 1 7 - ((r : Int) + 1)) r with h | ⟨k, k0, k1, k2, k3⟩
      · exact ⟨1, Or.inl ⟨fun k hk => h k hk.1 (by have := hk.2.1; omega) hk, rfl⟩⟩
      · exact ⟨1 + f k, Or.inr ⟨k, k2, rfl, fun k' hk' => by have := k3 k' hk'.1 (by have := hk'.2.1; omega) hk'; omega⟩⟩
    obtain ⟨x, hx⟩ := key
    refine ⟨fun i => if i = D 1 7 - ((r : Int) + 1) then x else f i, fun i i0 i1 => ?_⟩
    have hne : ∀ k, jo D o i k → (if k = D 1 7 - ((r : Int) + 1) then x else f k) = f k := fun k hk => if_neg (by have := hk.1; omega)
    by_cases e : i = D 1 7 - ((r : Int) + 1)
    · subst e
      simp only [if_pos]
      rcases hx with h | ⟨k, h1, h2, h3⟩
      · exact Or.inl h
      · exact Or.inr ⟨k, h1, by rw [hne k h1]; exact h2, fun k' hk' => by rw [hne k' hk']; exact h3 k' hk'⟩
    · simp only [if_neg e]
      rcases hf i (by omega) i1 with h | ⟨k, h1, h2, h3⟩
      · exact Or.inl h
      · exact Or.inr ⟨k, h1, by rw [hne k h1]; exact h2, fun k' hk' => by rw [hne k' hk']; exact h3 k' hk'⟩
theorem FW_ex (D : am_M) (o : Int) : ∃ f, FW D o 0 (D 1 7) f := by
  by_cases h : 0 ≤ D 1 7
  · have := FW_ex' D o (D 1 7).toNat
    rw [show D 1 7 - (((D 1 7).toNat : Nat) : Int) = 0 by omega] at this
    exact this
  · exact ⟨fun _ => 0, fun i i0 i1 => by omega⟩
noncomputable def fw (D : am_M) (o : Int) : Int → Int := Classical.choose (FW_ex D o)
theorem fw_s (D : am_M) (o : Int) : FW D o 0 (D 1 7) (fw D o) := Classical.choose_spec (FW_ex D o)
theorem fw_c {D : am_M} {o : Int} : ∀ i k, (0 : Int) ≤ i → i < D 1 7 → jo D o i k → k < D 1 7 := fun _ _ _ _ h => h.2.1
theorem fw_b {D : am_M} {o i : Int} (h0 : 0 ≤ i) (h1 : i < D 1 7) : 1 ≤ fw D o i ∧ fw D o i ≤ D 1 7 - i := FW_b fw_c (fw_s D o) (D 1 7 - i).toNat i (by omega) h0 h1
noncomputable def fwS (D : am_M) (o : Int) : Int := sm (fun i => if i = 0 ∨ D 5 (i - 1) ≠ D 5 i then fw D o i else 0) (D 1 7).toNat
