/-! Lines -/
def Fx (j : Nat) (M M' : am_M) : Prop := ∀ k, k ≠ j → M' k = M k
theorem Fx_r {j : Nat} {M : am_M} : Fx j M M := fun _ _ => rfl
theorem Fx_t {j : Nat} {A B C : am_M} (h : Fx j A B) (g : Fx j B C) : Fx j A C := fun k hk => (g k hk).trans (h k hk)
theorem Fx_u {j : Nat} {A B : am_M} {i x : Int} (h : Fx j A B) : Fx j A (am_up B j i x) := fun k hk => (am_up_r hk).trans (h k hk)
theorem Fx_f {D A B : am_M} {j : Nat} (hf : Fr8 D A) (hj : 8 < j) (h : Fx j A B) : Fr8 D B := Fr8_k hf hj h
theorem nn_s (x : Int) : (x = -1 ∧ nn x = -1000000) ∨ (x ≠ -1 ∧ nn x = x) := by
  unfold nn
  split <;> omega
theorem ek_s {D : am_M} {a : Int} (h0 : 0 ≤ a) : ek D a = -1 ∨ (0 ≤ ek D a ∧ ek D a < a ∧ D 4 (ek D a) = 1 ∧ D 5 (ek D a) = D 5 a ∧ ek D a = kb D a.toNat) := by
  have hk := kb_s D a.toNat
  unfold ek
  split
  next e =>
    rcases hk with ⟨h1, -⟩ | ⟨h1, h2, h3, -⟩
    · exact absurd h1 e.1
    · exact Or.inr ⟨h1, by omega, h3, e.2, rfl⟩
  next e => exact Or.inl rfl
theorem lk_s {D : am_M} {a : Int} (h0 : a < D 1 7) : lk D a = -1 ∨ (a < lk D a ∧ lk D a < D 1 7 ∧ D 4 (lk D a) = 1 ∧ D 5 a = D 5 (lk D a) ∧ lk D a = kf D (D 1 7) (D 1 7 - (a + 1)).toNat) := by
  have hk := kf_s D (D 1 7) (D 1 7 - (a + 1)).toNat
  unfold lk
  split
  next e =>
    rcases hk with ⟨h1, -⟩ | ⟨h1, h2, h3, -⟩
    · exact absurd h1 e.1
    · exact Or.inr ⟨by omega, h2, h3, e.2, rfl⟩
  next e => exact Or.inl rfl
theorem os_b {c : Int} {D : am_M} (hd : OKd c D) {a b : Int} (h0 : 0 ≤ a) (h1 : a < b) (h2 : b < D 1 7) : 0 ≤ D 6 0 * sp_span D a b ∧ D 6 0 * sp_span D a b ≤ 4999500 := by
  have hs := span_b hd h0 h1 h2
  have ho := hd.2.2.2.1
  have p := sp_pb (x := D 6 0) (y := sp_span D a b) (a := 500) (b := 9999) (by omega) (by omega)
  have := Int.mul_nonneg ho.1 (by omega : 0 ≤ sp_span D a b)
  omega
/-- all between two are within the oath -/
def jn (D : am_M) (a b o : Int) : Prop := sp_mx D a b (b - a - 1).toNat ≤ o * sp_span D a b
theorem dp_canJoin {a b : Int} {D M : am_M} {Q : Int → am_M → Prop} {c : Int} (hd : OKd c D) (hs : OKs D) (hf : Fr8 D M) (h0 : 0 ≤ a) (h1 : a < b) (h2 : b < D 1 7) (h3 : D 5 a = D 5 b)
    (q1 : jn D a b (D 6 0) → ∀ M', Fx 9 M M' → Q 1 M') (q0 : ¬ jn D a b (D 6 0) → ∀ M', Fx 9 M M' → Q 0 M') : wp_X1_canJoin a b M Q := by
  have hd' := hd
  obtain ⟨⟨n0, n1⟩, -⟩ := hd'
  refine dp_findWorst hd hs hf h0 h1 h2 h3 (fun M' f1 f2 f3 => ?_)
  have hf' := Fr8_k hf (by omega) f1
  have ho := os_b hd h0 h1 h2
  have hx := mx_b hd h0 h1 h2 (b - a - 1).toNat (by omega)
  unfold jn at q1 q0
  refine dp_sameStretch hd hs hf' (by unfold am_rg; omega) (by unfold am_rg; omega) (fun _ => ?_) (fun q => absurd ⟨⟨h0, by omega⟩, ⟨by omega, h2⟩, h3⟩ q)
  rw [f2, f3, fr_6 hf']
  refine ⟨by unfold am_rg; omega, fun e => absurd e (by omega), fun _ => ⟨?_, by unfold am_rg; omega, fun e => q0 ?_ M' f1, fun e => q1 ?_ M' f1⟩⟩
  · unfold am_rg; split <;> omega
  · split at e <;> omega
  · split at e <;> omega
def rk (D : am_M) (p : Int) : Int := if D 4 p ≠ 1 then 1 else if ek D p = -1 ∨ lk D p = -1 then 2 else if sp_mx D (ek D p) (lk D p) (lk D p - ek D p - 1).toNat ≤ D 6 0 * sp_span D (ek D p) (lk D p) then 0 else 3
theorem dp_reasonToKeep {p : Int} {D M : am_M} {Q : Int → am_M → Prop} {c : Int} (hd : OKd c D) (hs : OKs D) (hf : Fr8 D M) (hp : 0 ≤ p ∧ p < D 1 7) (hq : ∀ M', Fx 9 M M' → Q (rk D p) M') : wp_X1_reasonToKeep p M Q := by
  have hd' := hd
  obtain ⟨⟨n0, n1⟩, -⟩ := hd'
  have he := ek_s (D := D) hp.1
  have hl := lk_s (D := D) hp.2
  have hn := nn_s (ek D p)
  have hm := nn_s (lk D p)
  unfold rk at hq
  refine dp_isKept hd hf (by unfold am_rg; omega) (fun q => ⟨by unfold am_rg; omega, fun _ => ?_, fun e => absurd e (by omega)⟩) (fun q => ⟨by unfold am_rg; omega, fun e => absurd rfl e, fun _ => ?_⟩)
  · rw [if_neg (by omega)] at hq
    refine dp_earlierKept hd hs hf hp ?_
    refine dp_laterKept hd hs hf hp ?_
    refine ⟨by unfold am_rg; omega, fun e => ?_, fun e => ⟨by unfold am_rg; omega, fun e2 => ?_, fun e2 => ?_⟩⟩
    · rw [if_pos (by omega)] at hq
      exact hq M Fx_r
    · rw [if_neg (by omega)] at hq
      have e3 : nn (ek D p) = ek D p := by omega
      have e4 : nn (lk D p) = lk D p := by omega
      rw [e3, e4]
      refine dp_canJoin hd hs hf (by omega) (by omega) (by omega) (by omega) (fun z M' f1 => ⟨by unfold am_rg; omega, fun e => absurd e (by omega), fun _ => ?_⟩) (fun z M' f1 => ⟨by unfold am_rg; omega, fun _ => ?_, fun e => absurd rfl e⟩)
      · unfold jn at z
        rw [if_pos z] at hq
        exact hq M' f1
      · unfold jn at z
        rw [if_neg z] at hq
        exact hq M' f1
    · rw [if_pos (by omega)] at hq
      exact hq M Fx_r
  · rw [if_pos (by omega)] at hq
    exact hq M Fx_r
theorem dp_findMiss {a b k : Int} {D M : am_M} {Q : Int → am_M → Prop} {c : Int} (hd : OKd c D) (hs : OKs D) (hf : Fr8 D M) (ha : am_rg a) (hb : am_rg b) (hk : am_rg k) (hab : (0 ≤ a ∧ a < D 1 7) → (0 ≤ b ∧ b < D 1 7) → a < b)
    (h1 : (0 ≤ a ∧ a < D 1 7) ∧ (0 ≤ b ∧ b < D 1 7) ∧ D 5 a = D 5 b → (0 ≤ k ∧ k < D 1 7) ∧ D 5 a = D 5 k → ∀ M', Fx 9 M M' → M' 9 1 = sp_mi D a b k → M' 9 2 = sp_span D a b → Q 1 M')
    (h0 : ¬ (((0 ≤ a ∧ a < D 1 7) ∧ (0 ≤ b ∧ b < D 1 7) ∧ D 5 a = D 5 b) ∧ (0 ≤ k ∧ k < D 1 7) ∧ D 5 a = D 5 k) → ∀ M', Fx 9 M M' → M' 9 1 = 0 → M' 9 2 = 1 → Q 0 M') : wp_X1_findMiss a b k M Q := by
  obtain ⟨M0, hM0⟩ : ∃ M0, M0 = am_up (am_up M 9 1 0) 9 2 1 := ⟨_, rfl⟩
  have f0 : Fx 9 M M0 := by rw [hM0]; exact Fx_u (Fx_u Fx_r)
  have hf0 := Fx_f hf (by omega) f0
  have v1 : M0 9 1 = 0 := by rw [hM0, am_up_n (by omega), am_up_s]
  have v2 : M0 9 2 = 1 := by rw [hM0, am_up_s]
  have hd' := hd
  obtain ⟨⟨n0, n1⟩, -⟩ := hd'
  unfold wp_X1_findMiss
  rw [← hM0]
  refine dp_sameStretch hd hs hf0 ha hb (fun q1 => ⟨by unfold am_rg; omega, fun e => absurd e (by omega), fun _ => ?_⟩) (fun q => ⟨by unfold am_rg; omega, fun _ => h0 (fun z => q z.1) M0 f0 v1 v2, fun e => absurd rfl e⟩)
  refine dp_sameStretch hd hs hf0 ha hk (fun q2 => ⟨by unfold am_rg; omega, fun _ => ?_, fun e => absurd e (by omega)⟩) (fun q => ⟨by unfold am_rg; omega, fun e => absurd rfl e, fun _ => h0 (fun z => q ⟨z.1.1, z.2⟩) M0 f0 v1 v2⟩)
  have lab := hab q1.1 q1.2.1
  have hms := ms_b hd (k := k) q1.1.1 lab q1.2.1.2 q2.2.1.1 q2.2.1.2
  have J : ∀ s0 v5, s0 = sp_span D a b → v5 = sp_rise D a b → wj_X1_findMiss_125 Q a k v5 (M0 3 k - M0 3 a) s0 M0 := by
    intro s0 v5 e1 e2
    unfold wj_X1_findMiss_125
    rw [am_up_s, am_up_r (k := 9) (k' := 2) (by omega), fr_2 hf0, fr_3 hf0, e1, e2]
    have e : (D 3 k - D 3 a) * sp_span D a b - sp_rise D a b * (D 2 k - D 2 a) = sp_ms D a b k := rfl
    rw [e]
    refine ⟨by omega, by omega, by unfold am_rg; omega, h1 q1 q2.2 _ (Fx_u (Fx_u f0)) ?_ ?_⟩
    · rw [am_up_s]
      unfold sp_mi
      split <;> omega
    · rw [am_up_n (by omega), am_up_s]
  refine dp_isStep hd hf0 (fun e => ⟨by unfold am_rg; omega, fun z => absurd z (by omega), fun _ => ?_⟩) (fun e => ⟨by unfold am_rg; omega, fun _ => ⟨by omega, by omega, ?_⟩, fun z => absurd rfl z⟩)
  · refine ⟨by omega, by omega, by unfold am_rg; omega, fun z => absurd z (by omega), fun _ => ?_⟩
    refine J _ _ ?_ ?_
    · unfold sp_span; rw [if_pos e]
    · unfold sp_rise; rw [if_pos e]
  · refine ⟨by omega, by omega, by unfold am_rg; omega, fun _ => ⟨by omega, by omega, ?_⟩, fun z => absurd rfl z⟩
    refine J _ _ ?_ ?_
    · unfold sp_span; rw [if_neg (by omega), fr_2 hf0]
    · unfold sp_rise; rw [if_neg (by omega), fr_3 hf0]
def bk (D : am_M) (p : Int) : Prop := ¬ D 4 p = 1 ∧ ¬ (ek D p ≠ -1 ∧ lk D p ≠ -1 ∧ sp_mi D (ek D p) (lk D p) p ≤ D 6 0 * sp_span D (ek D p) (lk D p))
theorem dp_isBroken {p : Int} {D M : am_M} {Q : Int → am_M → Prop} {c : Int} (hd : OKd c D) (hs : OKs D) (hf : Fr8 D M) (hp : 0 ≤ p ∧ p < D 1 7) (q1 : bk D p → ∀ M', Fx 9 M M' → Q 1 M') (q0 : ¬ bk D p → ∀ M', Fx 9 M M' → Q 0 M') : wp_X1_isBroken p M Q := by
  have hd' := hd
  obtain ⟨⟨n0, n1⟩, -⟩ := hd'
  have he := ek_s (D := D) hp.1
  have hl := lk_s (D := D) hp.2
  have hn := nn_s (ek D p)
  have hm := nn_s (lk D p)
  unfold bk at q1 q0
  refine dp_isKept hd hf (by unfold am_rg; omega) (fun q => ⟨by unfold am_rg; omega, fun e => absurd e (by omega), fun _ => q0 (fun z => z.1 q.2) M Fx_r⟩) (fun q => ⟨by unfold am_rg; omega, fun _ => ?_, fun e => absurd rfl e⟩)
  have hk : ¬ D 4 p = 1 := fun z => q ⟨hp, z⟩
  refine dp_earlierKept hd hs hf hp ?_
  refine dp_laterKept hd hs hf hp ?_
  refine dp_findMiss hd hs hf (by unfold am_rg; omega) (by unfold am_rg; omega) (by unfold am_rg; omega) (fun z1 z2 => by omega) (fun z1 z2 M' f1 v1 v2 => ⟨by unfold am_rg; omega, fun e => absurd e (by omega), fun _ => ?_⟩) (fun z M' f1 v1 v2 => ⟨by unfold am_rg; omega, fun _ => ?_, fun e => absurd rfl e⟩)
  · have e3 : nn (ek D p) = ek D p := by omega
    have e4 : nn (lk D p) = lk D p := by omega
    rw [e3, e4] at v1 v2
    have hf' := Fx_f hf (by omega) f1
    have ho := os_b hd (a := ek D p) (b := lk D p) (by omega) (by omega) (by omega)
    have hi := mi_b hd (a := ek D p) (b := lk D p) (k := p) (by omega) (by omega) (by omega) hp.1 hp.2
    rw [v1, v2, fr_6 hf']
    exact ⟨by unfold am_rg; omega, by unfold am_rg; omega, fun e => q0 (fun z => z.2 ⟨by omega, by omega, e⟩) M' f1, fun e => q1 ⟨hk, fun z => e z.2.2⟩ M' f1⟩
  · refine q1 ⟨hk, fun y => z ?_⟩ M' f1
    have e3 : nn (ek D p) = ek D p := by omega
    have e4 : nn (lk D p) = lk D p := by omega
    rw [e3, e4]
    omega
/-! the greatest common divisor -/
def gd (x y : Int) : Int := ((Nat.gcd x.natAbs y.natAbs : Nat) : Int)
theorem gd_step {a b r : Nat} (hb : 0 < b) (hba : b ≤ a) (h : a * b < 2 ^ (r + 1)) : b * (a % b) < 2 ^ r := by
  have h1 := Nat.div_add_mod a b
  have h2 := Nat.mod_lt a hb
  have h3 : 1 ≤ a / b := Nat.div_pos hba hb
  have h4 := Nat.mul_le_mul_left b h3
  have h5 : 2 * (a % b) + 1 ≤ a := by omega
  have h6 := Nat.mul_le_mul_left b h5
  rw [Nat.mul_add, Nat.mul_comm b a, Nat.mul_left_comm] at h6
  rw [Nat.pow_succ] at h
  omega
theorem gd_rec {a b : Nat} : Nat.gcd a b = Nat.gcd b (a % b) := by
  rw [Nat.gcd_comm a b, Nat.gcd_rec b a, Nat.gcd_comm]
theorem sp_commonDivisor {x y : Int} {M : am_M} {Q : Int → am_M → Prop} (hx : 0 ≤ x ∧ x ≤ 2147483647) (hy : 0 ≤ y ∧ y ≤ 9999) (hq : Q (gd x y) M) : wp_X1_commonDivisor x y M Q := by
  have loop : ∀ (r a b : Nat) (k : Int), (a : Int) ≤ 2147483647 → b ≤ a → a * b < 2 ^ r → 0 ≤ k → k + (r : Int) ≤ 50 → Q ((Nat.gcd a b : Nat) : Int) M → wl_X1_commonDivisor_7 Q (r + 1) (a : Int) (b : Int) k M := by
    intro r
    induction r with
    | zero =>
      intro a b k ha hba h k0 hk hq
      have hb : b = 0 := by
        rcases Nat.eq_zero_or_pos b with z | z
        · exact z
        · have := Nat.mul_le_mul hba (Nat.le_refl b)
          have := Nat.mul_pos z z
          omega
      subst hb
      rw [Nat.gcd_zero_right] at hq
      exact ⟨by unfold am_rg; omega, fun _ => hq, fun _ => ⟨by unfold am_rg; omega, fun _ => hq, fun e => absurd rfl e⟩⟩
    | succ r ih =>
      intro a b k ha hba h k0 hk hq
      refine ⟨by unfold am_rg; omega, fun q => absurd q (by omega), fun _ => ⟨by unfold am_rg; omega, fun e => ?_, fun e => ⟨⟨by unfold am_rg; omega, by unfold am_rg; omega, by omega⟩, ?_⟩⟩⟩
      · have hb : b = 0 := by omega
        subst hb
        rw [Nat.gcd_zero_right] at hq
        exact hq
      · rw [← Int.ofNat_tmod]
        have hm := Nat.mod_lt a (show 0 < b by omega)
        refine ih b (a % b) (k + 1) (by omega) (by omega) (gd_step (by omega) hba h) (by omega) (by omega) ?_
        rw [← gd_rec]
        exact hq
  obtain ⟨a, rfl⟩ := Int.eq_ofNat_of_zero_le hx.1
  obtain ⟨b, rfl⟩ := Int.eq_ofNat_of_zero_le hy.1
  unfold gd at hq
  rw [Int.natAbs_natCast, Int.natAbs_natCast] at hq
  have hp : a * b < 2 ^ 49 := Nat.lt_of_le_of_lt (Nat.mul_le_mul (show a ≤ 2147483647 by omega) (show b ≤ 9999 by omega)) (by decide)
  by_cases hba : b ≤ a
  · exact ⟨_, loop 50 a b 0 (by omega) hba (Nat.lt_trans hp (by decide)) (by omega) (by omega) hq⟩
  · refine ⟨49 + 1 + 1, by unfold am_rg; omega, fun q => absurd q (by omega), fun _ => ⟨by unfold am_rg; omega, fun e => absurd e (by omega), fun e => ⟨⟨by unfold am_rg; omega, by unfold am_rg; omega, by omega⟩, ?_⟩⟩⟩
    rw [← Int.ofNat_tmod, Nat.mod_eq_of_lt (by omega)]
    refine loop 49 b a (0 + 1) (by omega) (by omega) (by rw [Nat.mul_comm]; exact hp) (by omega) (by omega) ?_
    rw [Nat.gcd_comm]
    exact hq
theorem gd_b {x y : Int} (hy : 1 ≤ y) : 1 ≤ gd x y ∧ gd x y ≤ y := by
  unfold gd
  have h1 := Nat.gcd_pos_of_pos_right x.natAbs (show 0 < y.natAbs by omega)
  have h2 := Nat.gcd_le_right x.natAbs (show 0 < y.natAbs by omega)
  omega
theorem sp_shorten {x y : Int} {M : am_M} {Q : am_M → Prop} (e1 : M 9 1 = x) (e2 : M 9 2 = y) (hx : -2147483647 ≤ x ∧ x ≤ 2147483647) (hy : 1 ≤ y ∧ y ≤ 9999) (hq : ∀ M', Fx 9 M M' → M' 9 1 = Int.tdiv x (gd x y) → M' 9 2 = Int.tdiv y (gd x y) → Q M') : wp_X1_shorten M Q := by
  have hg := gd_b (x := x) hy.1
  have ea : (if 0 ≤ M 9 1 then M 9 1 else 0 - M 9 1) = ((x.natAbs : Nat) : Int) := by rw [e1]; split <;> omega
  unfold wp_X1_shorten
  rw [ea, e2, e1]
  have eg : gd ((x.natAbs : Nat) : Int) y = gd x y := by unfold gd; rw [Int.natAbs_natCast]
  refine ⟨by unfold am_rg; omega, sp_commonDivisor (by omega) (by omega) ?_⟩
  rw [eg]
  refine ⟨by unfold am_rg; omega, fun e => absurd e (by omega), fun _ => ?_⟩
  rw [am_up_n (by omega), e2]
  refine ⟨⟨by unfold am_rg; omega, by unfold am_rg; omega, by omega⟩, ⟨by unfold am_rg; omega, by unfold am_rg; omega, by omega⟩, hq _ (Fx_u (Fx_u Fx_r)) ?_ ?_⟩
  · rw [am_up_n (by omega), am_up_s, e1]
  · rw [am_up_s]
