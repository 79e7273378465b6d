/-- the State at R, as a diary -/
def dia (M : am_M) (R : Nat) : am_M := fun k => M (R - 1 + k)
theorem dia_1 {M : am_M} {R : Nat} (h : 1 ≤ R) : dia M R 1 = M R := by unfold dia; rw [show R - 1 + 1 = R by omega]
theorem dia_k {M : am_M} {R k : Nat} (h : 1 ≤ R) : dia M R (k + 1) = M (R + k) := by unfold dia; rw [show R - 1 + (k + 1) = R + k by omega]
/-- the same diary, as far as it goes -/
def EQD (A B : am_M) : Prop := A 1 7 = B 1 7 ∧ A 1 8 = B 1 8 ∧ A 1 9 = B 1 9 ∧ A 1 10 = B 1 10 ∧ (∀ i, 0 ≤ i → i < 60 → A 2 i = B 2 i ∧ A 3 i = B 3 i ∧ A 4 i = B 4 i ∧ A 5 i = B 5 i) ∧ (∀ i, 0 ≤ i → i < 3 → A 6 i = B 6 i) ∧ (∀ i, 0 ≤ i → i < 8 → A 7 i = B 7 i ∧ A 8 i = B 8 i)
theorem OKd_eq {c : Int} {A B : am_M} (h : OKd c A) (e : EQD A B) : OKd c B := by
  obtain ⟨n1, n2, n3, n4, r, s, t⟩ := e
  obtain ⟨h1, h2, h3, h4, h5, h6, h7, h8, h9, h10, h11⟩ := h
  rw [n1] at h1 h2 h3
  rw [n2] at h7 h8
  rw [n3] at h9
  rw [n4] at h10
  rw [s 0 (by omega) (by omega)] at h4
  rw [s 1 (by omega) (by omega)] at h5
  rw [s 2 (by omega) (by omega)] at h6
  refine ⟨h1, fun i i0 i1 => ?_, fun i j i0 i1 i2 => ?_, h4, h5, h6, h7, fun k k0 k1 => ?_, h9, h10, h11⟩
  · have a := h2 i i0 i1
    obtain ⟨b1, b2, b3, -⟩ := r i i0 (by omega)
    rw [b1, b2, b3] at a
    exact a
  · have a := h3 i j i0 i1 i2
    rw [(r i i0 (by omega)).1, (r j (by omega) (by omega)).1] at a
    exact a
  · have a := h8 k k0 k1
    rw [(t k k0 (by omega)).1, (t k k0 (by omega)).2] at a
    exact a
theorem EQD_s {A B : am_M} (e : EQD A B) : EQD B A := by
  obtain ⟨n1, n2, n3, n4, r, s, t⟩ := e
  exact ⟨n1.symm, n2.symm, n3.symm, n4.symm, fun i i0 i1 => ⟨(r i i0 i1).1.symm, (r i i0 i1).2.1.symm, (r i i0 i1).2.2.1.symm, (r i i0 i1).2.2.2.symm⟩, fun i i0 i1 => (s i i0 i1).symm, fun i i0 i1 => ⟨(t i i0 i1).1.symm, (t i i0 i1).2.symm⟩⟩
/-- the reference's row of numbers holds this diary -/
def Mqr (q : Int → Int) (D : am_M) : Prop := q 0 = D 1 7 ∧ q 1 = D 1 8 ∧ q 2 = D 1 9 ∧ q 3 = D 1 10 ∧ q 4 = D 6 0 ∧ q 5 = D 6 1 ∧ q 6 = D 6 2 ∧ (∀ i, 0 ≤ i → i < D 1 7 → q (7 + i) = D 2 i ∧ q (67 + i) = D 3 i ∧ q (127 + i) = D 4 i) ∧ (∀ k, 0 ≤ k → k < D 1 8 → q (187 + 2 * k) = D 7 k ∧ q (187 + 2 * k + 1) = D 8 k)
theorem Mqr_eq {q : Int → Int} {A B : am_M} (h : Mqr q A) (e : EQD A B) (b1 : A 1 7 ≤ 60) (b2 : A 1 8 ≤ 8) : Mqr q B := by
  obtain ⟨n1, n2, n3, n4, r, s, t⟩ := e
  obtain ⟨h1, h2, h3, h4, h5, h6, h7, h8, h9⟩ := h
  rw [s 0 (by omega) (by omega)] at h5
  rw [s 1 (by omega) (by omega)] at h6
  rw [s 2 (by omega) (by omega)] at h7
  refine ⟨h1.trans n1, h2.trans n2, h3.trans n3, h4.trans n4, h5, h6, h7, fun i i0 i1 => ?_, fun k k0 k1 => ?_⟩
  · have a := h8 i i0 (by omega)
    obtain ⟨b1, b2, b3, -⟩ := r i i0 (by omega)
    rw [b1, b2, b3] at a
    exact a
  · have a := h9 k k0 (by omega)
    rw [(t k k0 (by omega)).1, (t k k0 (by omega)).2] at a
    exact a
theorem CP_d {R : Nat} {M M' : am_M} (hR : 1 ≤ R) (h : CP R 1 M M') : EQD (dia M' R) M := by
  obtain ⟨-, h1, h2, h3, h4, h5, h6, h7⟩ := h
  unfold EQD
  rw [dia_1 hR, dia_k (k := 1) hR, dia_k (k := 2) hR, dia_k (k := 3) hR, dia_k (k := 4) hR, dia_k (k := 5) hR, dia_k (k := 6) hR, dia_k (k := 7) hR]
  exact ⟨h1, h2, h3, h4, h5, h6, h7⟩
theorem CP_u {R : Nat} {M M' : am_M} (hR : 1 ≤ R) (h : CP 1 R M M') : EQD M' (dia M R) := by
  obtain ⟨-, h1, h2, h3, h4, h5, h6, h7⟩ := h
  unfold EQD
  rw [dia_1 hR, dia_k (k := 1) hR, dia_k (k := 2) hR, dia_k (k := 3) hR, dia_k (k := 4) hR, dia_k (k := 5) hR, dia_k (k := 6) hR, dia_k (k := 7) hR]
  exact ⟨h1, h2, h3, h4, h5, h6, h7⟩
theorem dp_rowAt {a : Int} {M : am_M} {Q : Option Nat → am_M → Prop} (h : 0 ≤ a ∧ a ≤ 11) (hq : Q (some (16 + 8 * (a % 6).toNat)) M) : wp_X0_rowAt a M Q := by
  have x : 0 ≤ (Int32.ofInt a ^^^ Int32.ofInt 6).toInt ∧ (-2147483648 ≤ (Int32.ofInt a ^^^ Int32.ofInt 6).toInt ∧ (Int32.ofInt a ^^^ Int32.ofInt 6).toInt ≤ 2147483647) := by
    have : a = 0 ∨ a = 1 ∨ a = 2 ∨ a = 3 ∨ a = 4 ∨ a = 5 ∨ a = 6 ∨ a = 7 ∨ a = 8 ∨ a = 9 ∨ a = 10 ∨ a = 11 := by omega
    rcases this with e | e | e | e | e | e | e | e | e | e | e | e <;> subst e <;> decide
  have t : Int.tmod a 6 = a % 6 := Int.tmod_eq_emod_of_nonneg h.1
  have b : 0 ≤ a % 6 ∧ a % 6 < 6 := by omega
  unfold wp_X0_rowAt wp_J9_floorMod_7cf53
  rw [t]
  refine ⟨⟨by unfold am_rg; omega, by unfold am_rg; omega, by omega⟩, x.2, fun _ => ⟨by unfold am_rg; omega, fun e => absurd e (by omega), fun _ => ⟨by unfold am_rg; omega, fun e => absurd e (by omega), fun _ => ⟨b, fun e => ?_, fun e => ?_, fun e => ?_, fun e => ?_, fun e => ?_, fun e => ?_⟩⟩⟩, fun e => absurd x.1 e⟩ <;> (rw [e] at hq; exact hq)
def rwo (M : am_M) (s : Int) : Nat := 16 + 8 * ((M 14 1 + s) % 6).toNat
def HPc (M M' : am_M) : Prop := (0 ≤ M' 14 1 ∧ M' 14 1 < 6) ∧ M' 14 2 = (if M 14 2 = 6 then 6 else M 14 2 + 1) ∧ EQD (dia M' (rwo M' (M' 14 2 - 1))) M ∧ (∀ s, 0 ≤ s → s < M' 14 2 - 1 → ∀ k, 1 ≤ k → k ≤ 8 → dia M' (rwo M' s) k = dia M (rwo M (s + (if M 14 2 = 6 then 1 else 0))) k)
def Fh (M M' : am_M) : Prop := ∀ k, (k < 14 ∨ 63 < k) → M' k = M k
theorem sp_remember32 {M : am_M} {Q : am_M → Prop} (h1 : 0 ≤ M 14 1 ∧ M 14 1 < 6) (h2 : 0 ≤ M 14 2 ∧ M 14 2 ≤ 5) (hq : ∀ M', (∀ k, k < 14 ∨ k = 15 ∨ 63 < k → M' k = M k) → M' 14 1 = M 14 1 → M' 14 2 = M 14 2 + 1 → CP (rwo M (M 14 2)) 1 M (am_up M' 14 2 (M 14 2)) → Q M') : wj_X0_remember_32 Q M := by
  have J : ∀ (R : Nat) (M3 : am_M), R = rwo M (M 14 2) → CP R 1 M M3 → Q (am_up M3 14 2 (M3 14 2 + 1)) := by
    intro R M3 hR h
    have hr : 16 ≤ R ∧ R ≤ 56 := by rw [hR]; unfold rwo; omega
    have e14 : M3 14 = M 14 := h.1 14 (by omega)
    refine hq _ (fun k hk => ?_) ?_ ?_ ?_
    · rw [am_up_r (by omega)]; exact h.1 k (by omega)
    · rw [am_up_n (by omega), e14]
    · rw [am_up_s, e14]
    · rw [← hR]
      have e : am_up (am_up M3 14 2 (M3 14 2 + 1)) 14 2 (M 14 2) = M3 := by
        funext k j
        unfold am_up
        by_cases z : k = 14 ∧ j = 2
        · rw [if_pos z, z.1, z.2, e14]
        · rw [if_neg z, if_neg z]
      rw [e]
      exact h
  unfold wj_X0_remember_32
  refine dp_rowAt (by omega) ?_
  have hi : ((M 14 1 + M 14 2) % 6).toNat = 0 ∨ ((M 14 1 + M 14 2) % 6).toNat = 1 ∨ ((M 14 1 + M 14 2) % 6).toNat = 2 ∨ ((M 14 1 + M 14 2) % 6).toNat = 3 ∨ ((M 14 1 + M 14 2) % 6).toNat = 4 ∨ ((M 14 1 + M 14 2) % 6).toNat = 5 := by omega
  unfold rwo at J
  rcases hi with e | e | e | e | e | e
  · rw [e]
    exact ⟨by decide, fun z => absurd z (by decide), fun _ => cp_16_1 (fun M3 h => J 16 M3 (by rw [e]) h), fun z => absurd z (by decide), fun z => absurd z (by decide), fun z => absurd z (by decide), fun z => absurd z (by decide), fun z => absurd z (by decide)⟩
  · rw [e]
    exact ⟨by decide, fun z => absurd z (by decide), fun z => absurd z (by decide), fun _ => cp_24_1 (fun M3 h => J 24 M3 (by rw [e]) h), fun z => absurd z (by decide), fun z => absurd z (by decide), fun z => absurd z (by decide), fun z => absurd z (by decide)⟩
  · rw [e]
    exact ⟨by decide, fun z => absurd z (by decide), fun z => absurd z (by decide), fun z => absurd z (by decide), fun _ => cp_32_1 (fun M3 h => J 32 M3 (by rw [e]) h), fun z => absurd z (by decide), fun z => absurd z (by decide), fun z => absurd z (by decide)⟩
  · rw [e]
    exact ⟨by decide, fun z => absurd z (by decide), fun z => absurd z (by decide), fun z => absurd z (by decide), fun z => absurd z (by decide), fun _ => cp_40_1 (fun M3 h => J 40 M3 (by rw [e]) h), fun z => absurd z (by decide), fun z => absurd z (by decide)⟩
  · rw [e]
    exact ⟨by decide, fun z => absurd z (by decide), fun z => absurd z (by decide), fun z => absurd z (by decide), fun z => absurd z (by decide), fun z => absurd z (by decide), fun _ => cp_48_1 (fun M3 h => J 48 M3 (by rw [e]) h), fun z => absurd z (by decide)⟩
  · rw [e]
    exact ⟨by decide, fun z => absurd z (by decide), fun z => absurd z (by decide), fun z => absurd z (by decide), fun z => absurd z (by decide), fun z => absurd z (by decide), fun z => absurd z (by decide), fun _ => cp_56_1 (fun M3 h => J 56 M3 (by rw [e]) h)⟩
theorem dp_remember {M : am_M} {Q : am_M → Prop} (h1 : 0 ≤ M 14 1 ∧ M 14 1 < 6) (h2 : 0 ≤ M 14 2 ∧ M 14 2 ≤ 6) (hq : ∀ M', Fh M M' → M' 15 = M 15 → HPc M M' → Q M') : wp_X0_remember M Q := by
  have J : ∀ (N : am_M), (∀ k, k ≠ 14 → N k = M k) → (0 ≤ N 14 1 ∧ N 14 1 < 6) → (0 ≤ N 14 2 ∧ N 14 2 ≤ 5) → N 14 2 + 1 = (if M 14 2 = 6 then 6 else M 14 2 + 1) → (∀ s, 0 ≤ s → s < N 14 2 → rwo N s = rwo M (s + (if M 14 2 = 6 then 1 else 0))) → wj_X0_remember_32 Q N := by
    intro N f a1 a2 e2 hs
    refine sp_remember32 a1 a2 (fun M' g b1 b2 b3 => hq M' (fun k hk => (g k (by omega)).trans (f k (by omega))) ((g 15 (by omega)).trans (f 15 (by omega))) ⟨by omega, by omega, ?_, fun s s0 s1 k k1 k2 => ?_⟩)
    · have er : rwo M' (M' 14 2 - 1) = rwo N (N 14 2) := by unfold rwo; rw [b1, b2, show N 14 2 + 1 - 1 = N 14 2 by omega]
      have h16 : 16 ≤ rwo N (N 14 2) := by unfold rwo; omega
      rw [er]
      have h := CP_d (by omega) b3
      unfold EQD at h ⊢
      rw [dia_1 (by omega), dia_k (k := 1) (by omega), dia_k (k := 2) (by omega), dia_k (k := 3) (by omega), dia_k (k := 4) (by omega), dia_k (k := 5) (by omega), dia_k (k := 6) (by omega), dia_k (k := 7) (by omega)] at h ⊢
      rw [am_up_r (by omega), am_up_r (by omega), am_up_r (by omega), am_up_r (by omega), am_up_r (by omega), am_up_r (by omega), am_up_r (by omega), am_up_r (by omega), f 1 (by omega), f 2 (by omega), f 3 (by omega), f 4 (by omega), f 5 (by omega), f 6 (by omega), f 7 (by omega), f 8 (by omega)] at h
      exact h
    · have er : rwo M' s = rwo N s := by unfold rwo; rw [b1]
      have hsN := hs s s0 (by omega)
      have hne : ((N 14 1 + s) % 6).toNat ≠ ((N 14 1 + N 14 2) % 6).toNat := by omega
      rw [er, ← hsN]
      unfold dia
      have h := b3.1 (rwo N s - 1 + k) (by unfold rwo; omega)
      rw [am_up_r (by unfold rwo; omega)] at h
      rw [h, f _ (by unfold rwo; omega)]
  unfold wp_X0_remember
  have hr : am_rg (M 14 2) := by unfold am_rg; omega
  refine ⟨hr, fun e => J M (fun _ _ => rfl) h1 (by omega) (by rw [if_neg e]) (fun s s0 s1 => by rw [if_neg e, Int.add_zero]), fun e => ⟨⟨by unfold am_rg; omega, by unfold am_rg; omega, by omega⟩, ?_⟩⟩
  have t : Int.tmod (M 14 1 + 1) 6 = (M 14 1 + 1) % 6 := Int.tmod_eq_emod_of_nonneg (by omega)
  rw [t, am_up_n (by omega)]
  refine J _ (fun k hk => by rw [am_up_r hk, am_up_r hk]) ?_ ?_ ?_ (fun s s0 s1 => ?_)
  · rw [am_up_n (by omega), am_up_s]; omega
  · rw [am_up_s]; omega
  · rw [am_up_s, if_pos (by omega)]; omega
  · unfold rwo
    rw [am_up_n (by omega), am_up_s, if_pos (by omega)]
    omega
theorem dp_restore {M : am_M} {Q : am_M → Prop} (h1 : 0 ≤ M 14 1 ∧ M 14 1 < 6) (h2 : 1 ≤ M 14 2 ∧ M 14 2 ≤ 6) (hq : ∀ M', (∀ k, (k = 0 ∨ (8 < k ∧ k ≠ 14)) → M' k = M k) → M' 14 1 = M 14 1 → M' 14 2 = M 14 2 - 1 → EQD M' (dia M (rwo M (M 14 2 - 1))) → Q M') : wp_X0_restore M Q := by
  obtain ⟨N, hN⟩ : ∃ N, N = am_up M 14 2 (M 14 2 - 1) := ⟨_, rfl⟩
  have f : ∀ k, k ≠ 14 → N k = M k := fun k hk => by rw [hN, am_up_r hk]
  have a1 : N 14 1 = M 14 1 := by rw [hN, am_up_n (by omega)]
  have a2 : N 14 2 = M 14 2 - 1 := by rw [hN, am_up_s]
  have J : ∀ (R : Nat) (M' : am_M), R = rwo M (M 14 2 - 1) → CP 1 R N M' → Q M' := by
    intro R M' hR h
    have hr : 16 ≤ R ∧ R ≤ 56 := by rw [hR]; unfold rwo; omega
    refine hq M' (fun k hk => (h.1 k (by omega)).trans (f k (by omega))) (by rw [h.1 14 (by omega)]; exact a1) (by rw [h.1 14 (by omega)]; exact a2) ?_
    have g := CP_u (by omega) h
    rw [← hR]
    unfold EQD at g ⊢
    rw [dia_1 (by omega), dia_k (k := 1) (by omega), dia_k (k := 2) (by omega), dia_k (k := 3) (by omega), dia_k (k := 4) (by omega), dia_k (k := 5) (by omega), dia_k (k := 6) (by omega), dia_k (k := 7) (by omega)] at g ⊢
    rw [f _ (by omega), f _ (by omega), f _ (by omega), f _ (by omega), f _ (by omega), f _ (by omega), f _ (by omega), f _ (by omega)] at g
    exact g
  unfold wp_X0_restore
  rw [← hN]
  refine ⟨by unfold am_rg; omega, fun _ => dp_rowAt (by omega) ?_, fun e => absurd (by omega) e⟩
  have hi : ((N 14 1 + N 14 2) % 6).toNat = 0 ∨ ((N 14 1 + N 14 2) % 6).toNat = 1 ∨ ((N 14 1 + N 14 2) % 6).toNat = 2 ∨ ((N 14 1 + N 14 2) % 6).toNat = 3 ∨ ((N 14 1 + N 14 2) % 6).toNat = 4 ∨ ((N 14 1 + N 14 2) % 6).toNat = 5 := by omega
  unfold rwo at J
  rw [← a1, ← a2] at J
  rcases hi with e | e | e | e | e | e
  · rw [e]
    exact ⟨by decide, fun z => absurd z (by decide), fun _ => cp_1_16 (fun M3 h => J 16 M3 (by rw [e]) h), fun z => absurd z (by decide), fun z => absurd z (by decide), fun z => absurd z (by decide), fun z => absurd z (by decide), fun z => absurd z (by decide)⟩
  · rw [e]
    exact ⟨by decide, fun z => absurd z (by decide), fun z => absurd z (by decide), fun _ => cp_1_24 (fun M3 h => J 24 M3 (by rw [e]) h), fun z => absurd z (by decide), fun z => absurd z (by decide), fun z => absurd z (by decide), fun z => absurd z (by decide)⟩
  · rw [e]
    exact ⟨by decide, fun z => absurd z (by decide), fun z => absurd z (by decide), fun z => absurd z (by decide), fun _ => cp_1_32 (fun M3 h => J 32 M3 (by rw [e]) h), fun z => absurd z (by decide), fun z => absurd z (by decide), fun z => absurd z (by decide)⟩
  · rw [e]
    exact ⟨by decide, fun z => absurd z (by decide), fun z => absurd z (by decide), fun z => absurd z (by decide), fun z => absurd z (by decide), fun _ => cp_1_40 (fun M3 h => J 40 M3 (by rw [e]) h), fun z => absurd z (by decide), fun z => absurd z (by decide)⟩
  · rw [e]
    exact ⟨by decide, fun z => absurd z (by decide), fun z => absurd z (by decide), fun z => absurd z (by decide), fun z => absurd z (by decide), fun z => absurd z (by decide), fun _ => cp_1_48 (fun M3 h => J 48 M3 (by rw [e]) h), fun z => absurd z (by decide)⟩
  · rw [e]
    exact ⟨by decide, fun z => absurd z (by decide), fun z => absurd z (by decide), fun z => absurd z (by decide), fun z => absurd z (by decide), fun z => absurd z (by decide), fun z => absurd z (by decide), fun _ => cp_1_56 (fun M3 h => J 56 M3 (by rw [e]) h)⟩
