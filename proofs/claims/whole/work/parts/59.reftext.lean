/-! the reference reads a text -/
def TX (t : Int → Int) (L : Int) (M : am_M) : Prop := M 69 4 = L ∧ (0 ≤ L ∧ L ≤ 60) ∧ ∀ i, 0 ≤ i → i < L → M 72 i = t i ∧ 33 ≤ t i ∧ t i ≤ 126
def Frs (M M' : am_M) : Prop := (∀ k, k ≠ 69 → k ≠ 78 → k ≠ 79 → M' k = M k) ∧ (∀ j, (j < 17 ∨ 20 < j) → M' 69 j = M 69 j)
theorem Frs_r {M : am_M} : Frs M M := ⟨fun _ _ _ _ => rfl, fun _ _ => rfl⟩
theorem Frs_t {A B C : am_M} (h : Frs A B) (g : Frs B C) : Frs A C := ⟨fun k a b d => (g.1 k a b d).trans (h.1 k a b d), fun j hj => (g.2 j hj).trans (h.2 j hj)⟩
theorem Frs_u {A B : am_M} {j x : Int} (h : Frs A B) (hj : 17 ≤ j ∧ j ≤ 20) : Frs A (am_up B 69 j x) := ⟨fun k a b d => by rw [am_up_r a]; exact h.1 k a b d, fun i hi => by rw [am_up_n (by omega)]; exact h.2 i hi⟩
theorem Frs_w {A B : am_M} {k : Nat} {j x : Int} (h : Frs A B) (hk : k = 78 ∨ k = 79) : Frs A (am_up B k j x) := ⟨fun i a b d => by rw [am_up_r (by omega)]; exact h.1 i a b d, fun i hi => by rw [am_up_r (by omega)]; exact h.2 i hi⟩
theorem TX_f {t : Int → Int} {L : Int} {A B : am_M} (h : TX t L A) (f : Frs A B) : TX t L B := by
  unfold TX at h ⊢
  rw [f.2 4 (by omega), f.1 72 (by omega) (by omega) (by omega)]
  exact h
theorem nu_d {t : Int → Int} {i : Nat} (h : 48 ≤ t (i : Int) ∧ t (i : Int) ≤ 57) : nu t (i + 1) = 10 * nu t i + t (i : Int) - 48 ∧ tm t (i + 1) = tm t i ∧ sg t (i + 1) = sg t i ∧ cn t (i + 1) = cn t i ∧ TA t (i + 1) = TA t i ∧ VA t (i + 1) = VA t i := by
  have en : nu t (i + 1) = if t (i : Int) = 58 then 0 else if t (i : Int) = 45 then nu t i else if t (i : Int) = 44 then 0 else 10 * nu t i + t (i : Int) - 48 := rfl
  have et : tm t (i + 1) = if t (i : Int) = 58 then nu t i else tm t i := rfl
  have eg : sg t (i + 1) = if t (i : Int) = 58 then 1 else if t (i : Int) = 45 then -1 else sg t i := rfl
  have ec : cn t (i + 1) = if t (i : Int) = 44 then cn t i + 1 else cn t i := rfl
  have eT : TA t (i + 1) = if t (i : Int) = 44 then (fun j => if j = cn t i then tm t i else TA t i j) else TA t i := rfl
  have eV : VA t (i + 1) = if t (i : Int) = 44 then (fun j => if j = cn t i then sg t i * nu t i else VA t i j) else VA t i := rfl
  rw [en, et, eg, ec, eT, eV, if_neg (by omega), if_neg (by omega), if_neg (by omega), if_neg (by omega), if_neg (by omega), if_neg (by omega), if_neg (by omega), if_neg (by omega), if_neg (by omega)]
  exact ⟨rfl, rfl, rfl, rfl, rfl, rfl⟩
/-- the same points so far -/
def SP (t : Int → Int) (p q : Nat) : Prop := cn t q = cn t p ∧ TA t q = TA t p ∧ VA t q = VA t p
theorem SP_t {t : Int → Int} {p q r : Nat} (h : SP t p q) (g : SP t q r) : SP t p r := ⟨g.1.trans h.1, g.2.1.trans h.2.1, g.2.2.trans h.2.2⟩
theorem mp_sign {x : Int} {t : Int → Int} {L : Int} {p : Nat} {M : am_M} {Q : Int → am_M → Prop} (hT : TX t L M) (hp : M 69 19 = (p : Int)) (hpL : (p : Int) ≤ L) (hx : am_rg x)
    (q1 : (p : Int) < L → t (p : Int) = x → Q 1 (am_up M 69 19 ((p : Int) + 1))) (q0 : ¬ ((p : Int) < L ∧ t (p : Int) = x) → Q 0 (am_up M 69 19 (p : Int))) : wp_X6_sign x M Q := by
  obtain ⟨h4, hL, hc⟩ := hT
  have no : ¬ ((p : Int) < L ∧ t (p : Int) = x) → wj_X6_sign_28 Q M := by
    intro z
    unfold wj_X6_sign_28 wj_X6_sign_29
    rw [hp, Int.add_zero]
    exact ⟨by unfold am_rg; omega, fun _ => ⟨Or.inl rfl, q0 z⟩, fun e => absurd rfl e⟩
  unfold wp_X6_sign
  rw [hp, h4]
  refine ⟨by unfold am_rg; omega, by unfold am_rg; omega, fun e => no (fun z => by omega), fun e => ?_⟩
  obtain ⟨a, b, d⟩ := hc (p : Int) (by omega) (by omega)
  rw [a]
  refine ⟨by omega, by unfold am_rg; omega, hx, fun e2 => no (fun z => e2 z.2), fun e2 => ?_⟩
  unfold wj_X6_sign_29
  rw [hp]
  exact ⟨by unfold am_rg; omega, fun e => absurd e (by omega), fun _ => ⟨Or.inr rfl, q1 (by omega) (by omega)⟩⟩
theorem mp_readNumber {dg b s0 : Int} {t : Int → Int} {L : Int} {p : Nat} {M : am_M} {Q : Int → am_M → Prop} (hT : TX t L M) (hp : M 69 19 = (p : Int)) (hpL : (p : Int) ≤ L) (hs : st t p = s0) (hn : nu t p = 0)
    (hk : (dg = 4 ∧ s0 = 0 ∧ b = 1) ∨ (dg = 3 ∧ (s0 = 6 ∨ s0 = 7) ∧ b = 8)) (h6 : s0 = 6 → (p : Int) < L → t (p : Int) ≠ 45)
    (q0 : ∀ M', Frs M M' → M' 78 = M 78 → M' 79 = M 79 → M' 69 17 = M 69 17 → M' 69 18 = M 69 18 → M' 69 19 = (p : Int) → M' 69 20 = 0 → ((p : Int) = L ∨ pa s0 (t (p : Int)) = -1) → Q 0 M')
    (q1 : ∀ (q : Nat) M', p < q → (q : Int) ≤ L → Frs M M' → M' 78 = M 78 → M' 79 = M 79 → M' 69 17 = M 69 17 → M' 69 18 = M 69 18 → M' 69 19 = (q : Int) → M' 69 20 = nu t q → (b ≤ st t q ∧ st t q ≤ b + dg) → ((b = 1 → st t q ≤ 5) ∧ (b = 8 → st t q ≤ 11)) → tm t q = tm t p → sg t q = sg t p → SP t p q → ((q : Int) = L ∨ (48 ≤ t (q : Int) → t (q : Int) ≤ 57 → pa (st t q) (t (q : Int)) = -1)) → Q 1 M') : wp_X6_readNumber dg M Q := by
  obtain ⟨h4, hL, hc⟩ := hT
  have fin : ∀ (d : Nat) (M1 : am_M), ((p + d : Nat) : Int) ≤ L → Frs M M1 → M1 78 = M 78 → M1 79 = M 79 → M1 69 17 = M 69 17 → M1 69 18 = M 69 18 → M1 69 19 = ((p + d : Nat) : Int) → M1 69 20 = nu t (p + d) → tm t (p + d) = tm t p → sg t (p + d) = sg t p → SP t p (p + d) → ((d = 0 ∧ st t (p + d) = s0) ∨ (1 ≤ d ∧ (d : Int) ≤ dg ∧ t (p : Int) = 48 ∧ st t (p + d) = b) ∨ (1 ≤ d ∧ (d : Int) ≤ dg ∧ t (p : Int) ≠ 48 ∧ st t (p + d) = b + (d : Int))) → (((p + d : Nat) : Int) = L ∨ (d : Int) = dg ∨ ¬ (48 ≤ t ((p + d : Nat) : Int) ∧ t ((p + d : Nat) : Int) ≤ 57) ∨ (1 ≤ d ∧ t (p : Int) = 48)) → wj_X6_readNumber_106 Q (p : Int) M1 := by
    intro d M1 hdL f a78 a79 a17 a18 a19 a20 etm esg esp inv stop
    unfold wj_X6_readNumber_106
    rw [a19]
    refine ⟨by unfold am_rg; omega, by unfold am_rg; omega, fun e => ?_, fun e => ?_⟩
    · have d0 : d = 0 := by omega
      subst d0
      rw [show p + 0 = p by omega] at *
      refine q0 M1 f a78 a79 a17 a18 a19 (by rw [a20, hn]) ?_
      rcases stop with z | z | z | z
      · exact Or.inl z
      · omega
      · by_cases y : (p : Int) = L
        · exact Or.inl y
        · refine Or.inr ?_
          have h6' := fun e => h6 e (by omega)
          unfold pa
          (repeat' split) <;> omega
      · omega
    · refine q1 (p + d) M1 (by omega) hdL f a78 a79 a17 a18 a19 a20 ?_ ?_ etm esg esp ?_
      · rcases inv with ⟨z, -⟩ | ⟨z1, z2, z3, z4⟩ | ⟨z1, z2, z3, z4⟩ <;> omega
      · rcases inv with ⟨z, -⟩ | ⟨z1, z2, z3, z4⟩ | ⟨z1, z2, z3, z4⟩ <;> omega
      · rcases stop with z | z | z | z
        · exact Or.inl z
        · refine Or.inr (fun x y => ?_)
          rcases inv with ⟨w, -⟩ | ⟨z1, z2, z3, z4⟩ | ⟨z1, z2, z3, z4⟩
          · omega
          · rw [z4]; unfold pa; (repeat' split) <;> omega
          · rw [z4]; unfold pa; (repeat' split) <;> omega
        · exact Or.inr (fun x y => absurd ⟨x, y⟩ z)
        · refine Or.inr (fun x y => ?_)
          rcases inv with ⟨w, -⟩ | ⟨z1, z2, z3, z4⟩ | ⟨z1, z2, z3, z4⟩
          · omega
          · rw [z4]; unfold pa; (repeat' split) <;> omega
          · exact absurd z.2 z3
  have loop : ∀ (r d : Nat) (M1 : am_M), (d : Int) + r = dg → ((p + d : Nat) : Int) ≤ L → Frs M M1 → M1 78 = M 78 → M1 79 = M 79 → M1 69 17 = M 69 17 → M1 69 18 = M 69 18 → M1 69 19 = ((p + d : Nat) : Int) → M1 69 20 = nu t (p + d) → tm t (p + d) = tm t p → sg t (p + d) = sg t p → SP t p (p + d) → ((d = 0 ∧ st t (p + d) = s0) ∨ (1 ≤ d ∧ (d : Int) ≤ dg ∧ t (p : Int) = 48 ∧ st t (p + d) = b) ∨ (1 ≤ d ∧ (d : Int) ≤ dg ∧ t (p : Int) ≠ 48 ∧ st t (p + d) = b + (d : Int))) → wl_X6_readNumber_10 Q (r + 1) dg (p : Int) M1 := by
    intro r
    induction r with
    | zero =>
      intro d M1 hd hdL f a78 a79 a17 a18 a19 a20 etm esg esp inv
      have F := fin d M1 hdL f a78 a79 a17 a18 a19 a20 etm esg esp inv (Or.inr (Or.inl (by omega)))
      rw [wl_X6_readNumber_10, a19, f.2 4 (by omega), h4]
      exact ⟨by unfold am_rg; omega, by unfold am_rg; omega, fun _ => F, fun e => ⟨by unfold am_rg; omega, by unfold am_rg; omega, fun _ => F, fun e2 => absurd (by omega) e2⟩⟩
    | succ r ih =>
      intro d M1 hd hdL f a78 a79 a17 a18 a19 a20 etm esg esp inv
      have F := fin d M1 hdL f a78 a79 a17 a18 a19 a20 etm esg esp inv
      rw [wl_X6_readNumber_10, a19, f.2 4 (by omega), h4, f.1 72 (by omega) (by omega) (by omega)]
      refine ⟨by unfold am_rg; omega, by unfold am_rg; omega, fun e => F (Or.inl (by omega)), fun e => ⟨by unfold am_rg; omega, by unfold am_rg; omega, fun e2 => absurd e2 (by omega), fun e2 => ⟨by omega, ?_⟩⟩⟩
      obtain ⟨x1, x2, x3⟩ := hc ((p + d : Nat) : Int) (by omega) (by omega)
      rw [x1]
      refine mp_in (by unfold am_rg; omega) (by unfold am_rg; omega) (by unfold am_rg; omega) (fun y => ⟨by unfold am_rg; omega, fun e => absurd e (by omega), fun _ => ?_⟩) (fun y => ⟨by unfold am_rg; omega, fun _ => F (Or.inr (Or.inr (Or.inl y))), fun e => absurd rfl e⟩)
      have a72 : M1 72 = M 72 := f.1 72 (by omega) (by omega) (by omega)
      have go : (d = 0 ∨ t (p : Int) ≠ 48) → wj_X6_readNumber_69 Q (wl_X6_readNumber_10 Q (r + 1)) dg (p : Int) M1 := by
        intro w
        unfold wj_X6_readNumber_69
        rw [a19, a20, a72, x1, am_up_n (show (19 : Int) ≠ 20 by omega), a19]
        refine ⟨by omega, ?_⟩
        obtain ⟨n1, n2, n3, n4, n5, n6⟩ := nu_d (t := t) (i := p + d) y
        have es : st t (p + d + 1) = pa (st t (p + d)) (t ((p + d : Nat) : Int)) := st_s (by rcases inv with ⟨-, z⟩ | ⟨-, -, -, z⟩ | ⟨z1, -, -, z⟩ <;> omega)
        refine ih (d + 1) _ (by omega) (by omega) (Frs_u (Frs_u f (by omega)) (by omega)) (by rw [am_up_r (by omega), am_up_r (by omega)]; exact a78) (by rw [am_up_r (by omega), am_up_r (by omega)]; exact a79) (by rw [am_up_n (by omega), am_up_n (by omega)]; exact a17) (by rw [am_up_n (by omega), am_up_n (by omega)]; exact a18) (by rw [am_up_s]; omega) (by rw [am_up_n (by omega), am_up_s]; exact n1.symm) (by rw [← Nat.add_assoc, n2]; exact etm) (by rw [← Nat.add_assoc, n3]; exact esg) (SP_t esp (by rw [← Nat.add_assoc]; exact ⟨n4, n5, n6⟩)) ?_
        rw [← Nat.add_assoc, es]
        by_cases d0 : d = 0
        · subst d0
          have ep : ((p + 0 : Nat) : Int) = (p : Int) := by omega
          rw [ep] at y ⊢
          rw [show p + 0 = p by omega, hs]
          by_cases z : t (p : Int) = 48
          · refine Or.inr (Or.inl ⟨by omega, by omega, z, ?_⟩)
            unfold pa; (repeat' split) <;> omega
          · refine Or.inr (Or.inr ⟨by omega, by omega, z, ?_⟩)
            unfold pa; (repeat' split) <;> omega
        · have w' : t (p : Int) ≠ 48 := by
            rcases w with w | w
            · exact absurd w d0
            · exact w
          refine Or.inr (Or.inr ⟨by omega, by omega, w', ?_⟩)
          have e5 : st t (p + d) = b + (d : Int) := by
            rcases inv with ⟨z, -⟩ | ⟨-, -, z, -⟩ | ⟨-, -, -, z⟩
            · exact absurd z d0
            · exact absurd z w'
            · exact z
          rw [e5]
          unfold pa; (repeat' split) <;> omega
      refine ⟨by rw [a19]; unfold am_rg; omega, by unfold am_rg; omega, fun e3 => go (Or.inl (by omega)), fun e3 => ⟨by omega, ?_⟩⟩
      have xp := hc (p : Int) (by omega) (by omega)
      rw [a72, xp.1]
      exact ⟨by unfold am_rg; omega, fun e4 => F (Or.inr (Or.inr (Or.inr ⟨by omega, e4⟩))), fun e4 => go (Or.inr e4)⟩
  unfold wp_X6_readNumber
  rw [hp]
  have h0 := loop dg.toNat 0 (am_up M 69 20 0) (by omega) (by omega) (Frs_u Frs_r (by omega)) (am_up_r (by omega)) (am_up_r (by omega)) (am_up_n (by omega)) (am_up_n (by omega)) (by rw [am_up_n (by omega)]; exact hp) (by rw [am_up_s]; exact hn.symm) rfl rfl ⟨rfl, rfl, rfl⟩ (Or.inl ⟨rfl, hs⟩)
  exact ⟨_, h0⟩
/-- what stands when the reading ends -/
def RE (t : Int → Int) (L : Int) (q : Nat) (M' : am_M) : Prop := (q : Int) ≤ L ∧ M' 69 19 = (q : Int) ∧ st t q ≠ -1 ∧ ((q : Int) = L ∨ pa (st t q) (t (q : Int)) = -1) ∧ (M' 69 18 = 0 ∨ M' 69 18 = 1) ∧ (M' 69 18 = 1 ↔ 8 ≤ st t q) ∧ (M' 69 18 = 1 → M' 69 17 = cn t q + 1 ∧ ∀ k, 0 ≤ k → k ≤ cn t q → M' 78 k = TP t q k ∧ M' 79 k = VP t q k)
/-- the points read so far -/
def RW (t : Int → Int) (p : Nat) (M : am_M) : Prop := M 69 17 = cn t p ∧ ∀ k, 0 ≤ k → k < cn t p → M 78 k = TA t p k ∧ M 79 k = VA t p k
theorem nu_0 {t : Int → Int} {p : Nat} (h : st t p = 0 ∨ st t p = 6 ∨ st t p = 7) : nu t p = 0 := by
  have a := (tx_b t p (by omega)).1
  unfold TXN at a
  obtain ⟨a1, a2, a3, a4, a5, a6, a7, a8, a9, a10, a11, a12, a13, a14, a15, a16, a17, a18⟩ := a
  rcases h with h | h
  · exact (a5 h).1
  · exact a13 (by omega) (by omega)
theorem mp_bad {t : Int → Int} {L v : Int} {q : Nat} {M0 M : am_M} {Q : Int → am_M → Prop} (f : Frs M0 M) (hv : v = 0 ∨ v = 1) (h17 : 0 ≤ M 69 17 ∧ M 69 17 < 60) (h19 : M 69 19 = (q : Int)) (hqL : (q : Int) ≤ L) (hs : st t q ≠ -1) (hs8 : st t q < 8) (he : (q : Int) = L ∨ pa (st t q) (t (q : Int)) = -1)
    (q0 : ∀ (q : Nat) M', Frs M0 M' → RE t L q M' → Q 0 M') : wj_X6_readPoint_79 Q v 0 M := by
  have last : ∀ s0, wj_X6_readPoint_104 Q 0 s0 (M 69 17) M := by
    intro s0
    refine ⟨h17, Or.inl rfl, by unfold am_rg; omega, fun _ => q0 q _ (Frs_u (Frs_u (Frs_w f (Or.inr rfl)) (by omega)) (by omega)) ⟨hqL, ?_, hs, he, Or.inl (by rw [am_up_s]), ?_, fun z => ?_⟩, fun e => absurd rfl e⟩
    · rw [am_up_n (by omega), am_up_n (by omega), am_up_r (by omega)]; exact h19
    · rw [am_up_s]; omega
    · rw [am_up_s] at z; omega
  exact ⟨by unfold am_rg; omega, fun _ => last _, fun _ => last _⟩
theorem mp_readPoint {t : Int → Int} {L : Int} {p : Nat} {M : am_M} {Q : Int → am_M → Prop} (hT : TX t L M) (hp : M 69 19 = (p : Int)) (hpL : (p : Int) ≤ L) (hs : st t p = 0) (hR : RW t p M)
    (q0 : ∀ (q : Nat) M', Frs M M' → RE t L q M' → Q 0 M') (q1 : ∀ (q : Nat) M', p < q → (q : Int) ≤ L → Frs M M' → M' 69 19 = (q : Int) → st t q = 0 → RW t q M' → Q 1 M') : wp_X6_readPoint M Q := by
  obtain ⟨h17, rows⟩ := hR
  have hLL := hT.2.1
  have hcn := cn_b (t := t) (i := p) (by omega)
  have f0 : Frs M (am_up M 69 18 0) := Frs_u Frs_r (by omega)
  refine mp_readNumber (TX_f hT f0) (by rw [am_up_n (by omega)]; exact hp) hpL hs (nu_0 (Or.inl hs)) (Or.inl ⟨rfl, rfl, rfl⟩) (fun e => by omega) (fun M1 f1 a78 a79 a17 a18 a19 a20 st1 => ?_) (fun q M1 pq qL f1 a78 a79 a17 a18 a19 a20 s1 s2 etm esg esp st1 => ?_)
  · have b17 : M1 69 17 = cn t p := by rw [a17, am_up_n (by omega)]; exact h17
    have F1 : Frs M M1 := Frs_t f0 f1
    rw [b17]
    refine ⟨by omega, by unfold am_rg; omega, fun _ => ?_, fun e => absurd rfl e⟩
    refine ⟨by unfold am_rg; omega, fun _ => ⟨by unfold am_rg; omega, fun _ => ?_, fun e => absurd rfl e⟩, fun e => absurd rfl e⟩
    exact mp_bad (t := t) (L := L) (q := p) (M0 := M) (Frs_w F1 (Or.inl rfl)) (Or.inl rfl) (by rw [am_up_r (by omega)]; omega) (by rw [am_up_r (by omega)]; exact a19) hpL (by omega) (by omega) (by rw [hs]; exact st1) q0
  · have b17 : M1 69 17 = cn t p := by rw [a17, am_up_n (by omega)]; exact h17
    have F1 : Frs M M1 := Frs_t f0 f1
    rw [b17, a20]
    refine ⟨by omega, by unfold am_rg; omega, fun e => absurd e (by omega), fun _ => ?_⟩
    obtain ⟨M2, hM2⟩ : ∃ M2, M2 = am_up M1 78 (cn t p) (nu t q) := ⟨_, rfl⟩
    rw [← hM2]
    have F2 : Frs M M2 := by rw [hM2]; exact Frs_w F1 (Or.inl rfl)
    have d17 : M2 69 17 = cn t p := by rw [hM2, am_up_r (by omega)]; exact b17
    have d19 : M2 69 19 = (q : Int) := by rw [hM2, am_up_r (by omega)]; exact a19
    have d79 : M2 79 = M 79 := by rw [hM2, am_up_r (by omega), a79, am_up_r (by omega)]
    have d78 : ∀ k, k ≠ cn t p → M2 78 k = M 78 k := fun k hk => by rw [hM2, am_up_n hk, a78, am_up_r (by omega)]
    have d78s : M2 78 (cn t p) = nu t q := by rw [hM2, am_up_s]
    have d20 : M2 69 20 = nu t q := by rw [hM2, am_up_r (by omega)]; exact a20
    have tq : (q : Int) < L → 33 ≤ t (q : Int) ∧ t (q : Int) ≤ 126 := fun z => (hT.2.2 (q : Int) (by omega) z).2
    refine mp_sign (TX_f hT F2) d19 qL (by unfold am_rg; omega) (fun x1 x2 => ⟨by unfold am_rg; omega, fun e => absurd e (by omega), fun _ => ?_⟩) (fun x => ⟨by unfold am_rg; omega, fun _ => ?_, fun e => absurd rfl e⟩)
    · -- the colon
      have e6 : st t (q + 1) = 6 := by
        rw [st_s (by omega), x2]
        unfold pa; (repeat' split) <;> omega
      have n6 : nu t (q + 1) = 0 := nu_0 (Or.inr (Or.inl e6))
      have t6 : tm t (q + 1) = nu t q := by show (if t (q : Int) = 58 then nu t q else tm t q) = nu t q; rw [if_pos x2]
      have g6 : sg t (q + 1) = 1 := by show (if t (q : Int) = 58 then 1 else if t (q : Int) = 45 then -1 else sg t q) = 1; rw [if_pos x2]
      have sp6 : SP t p (q + 1) := SP_t esp ⟨by show (if t (q : Int) = 44 then cn t q + 1 else cn t q) = cn t q; rw [if_neg (by omega)], by show (if t (q : Int) = 44 then (fun j => if j = cn t q then tm t q else TA t q j) else TA t q) = TA t q; rw [if_neg (by omega)], by show (if t (q : Int) = 44 then (fun j => if j = cn t q then sg t q * nu t q else VA t q j) else VA t q) = VA t q; rw [if_neg (by omega)]⟩
      obtain ⟨M3, hM3⟩ : ∃ M3, M3 = am_up M2 69 19 ((q : Int) + 1) := ⟨_, rfl⟩
      rw [← hM3]
      have F3 : Frs M M3 := by rw [hM3]; exact Frs_u F2 (by omega)
      have k17 : M3 69 17 = cn t p := by rw [hM3, am_up_n (by omega)]; exact d17
      have k19 : M3 69 19 = ((q + 1 : Nat) : Int) := by rw [hM3, am_up_s]; omega
      have k78 : M3 78 = M2 78 := by rw [hM3, am_up_r (by omega)]
      have k79 : M3 79 = M 79 := by rw [hM3, am_up_r (by omega)]; exact d79
      -- the value, from a place on
      have val : ∀ (u : Nat) (M4 : am_M) (v : Int), ((v = 0 ∧ st t u = 6 ∧ ((u : Int) < L → t (u : Int) ≠ 45) ∧ sg t u = 1) ∨ (v = 1 ∧ st t u = 7 ∧ sg t u = -1)) → q < u → (u : Int) ≤ L → tm t u = nu t q → SP t p u → Frs M M4 → M4 69 17 = cn t p → M4 69 19 = (u : Int) → M4 78 = M2 78 → M4 79 = M 79 → wj_X6_readPoint_61 Q 1 v M4 := by
        intro u M4 v hv qu uL tu spu F4 y17 y19 y78 y79
        have su : st t u = 6 ∨ st t u = 7 := by rcases hv with h | h; exact Or.inl h.2.1; exact Or.inr h.2.1
        have v01 : v = 0 ∨ v = 1 := by rcases hv with h | h; exact Or.inl h.1; exact Or.inr h.1
        refine ⟨by unfold am_rg; omega, fun e => absurd e (by omega), fun _ => ?_⟩
        refine mp_readNumber (TX_f hT F4) y19 uL rfl (nu_0 (Or.inr su)) (Or.inr ⟨rfl, su, rfl⟩) (fun e z => ?_) (fun M5 f5 z78 z79 z17 z18 z19 z20 st5 => ⟨by unfold am_rg; omega, fun _ => ?_, fun e => absurd rfl e⟩) (fun w M5 uw wL f5 z78 z79 z17 z18 z19 z20 s5 s6 etm5 esg5 esp5 st5 => ⟨by unfold am_rg; omega, fun e => absurd e (by omega), fun _ => ?_⟩)
        · rcases hv with h | h
          · exact h.2.2.1 z
          · omega
        · exact mp_bad (t := t) (L := L) (q := u) (M0 := M) (Frs_t F4 f5) v01 (by rw [z17, y17]; omega) z19 uL (by omega) (by omega) st5 q0
        · have spw : SP t p w := SP_t spu esp5
          have F5 : Frs M M5 := Frs_t F4 f5
          have hcw := cn_b (t := t) (i := w) (by omega)
          have tw : (w : Int) < L → 33 ≤ t (w : Int) ∧ t (w : Int) ≤ 126 := fun z => (hT.2.2 (w : Int) (by omega) z).2
          have last : ∀ s0, s0 = sg t w * nu t w → wj_X6_readPoint_104 Q 1 s0 (cn t p) M5 := by
            intro s0 hs0
            obtain ⟨M6, hM6⟩ : ∃ M6, M6 = am_up (am_up (am_up M5 79 (cn t p) s0) 69 17 (cn t p + 1)) 69 18 1 := ⟨_, rfl⟩
            have F6 : Frs M M6 := by rw [hM6]; exact Frs_u (Frs_u (Frs_w F5 (Or.inr rfl)) (by omega)) (by omega)
            have c17 : M6 69 17 = cn t w + 1 := by rw [hM6, am_up_n (by omega), am_up_s, spw.1]
            have c18 : M6 69 18 = 1 := by rw [hM6, am_up_s]
            have c19 : M6 69 19 = (w : Int) := by rw [hM6, am_up_n (by omega), am_up_n (by omega), am_up_r (by omega)]; exact z19
            have c78 : ∀ k, 0 ≤ k → k ≤ cn t w → M6 78 k = TP t w k := by
              intro k k0 k1
              have e78 : M6 78 = M2 78 := by rw [hM6, am_up_r (by omega), am_up_r (by omega), am_up_r (by omega), z78, y78]
              rw [e78]
              unfold TP
              rw [spw.1] at k1 ⊢
              by_cases z : k = cn t p
              · rw [if_pos z, z, d78s, etm5, tu]
              · rw [if_neg z, d78 k z, spw.2.1]; exact (rows k k0 (by omega)).1
            have c79 : ∀ k, 0 ≤ k → k ≤ cn t w → M6 79 k = VP t w k := by
              intro k k0 k1
              have e79 : M6 79 k = am_up M5 79 (cn t p) s0 79 k := by rw [hM6, am_up_r (by omega), am_up_r (by omega)]
              rw [e79]
              unfold VP
              rw [spw.1] at k1 ⊢
              by_cases z : k = cn t p
              · rw [if_pos z, z, am_up_s]; exact hs0
              · rw [if_neg z, am_up_n z, z79, y79, spw.2.2]; exact (rows k k0 (by omega)).2
            have e17 : am_up M5 79 (cn t p) s0 69 17 = cn t p := by rw [am_up_r (by omega), z17, y17]
            unfold wj_X6_readPoint_104
            rw [e17, ← hM6]
            refine ⟨by omega, Or.inr rfl, by unfold am_rg; omega, fun e => absurd e (by omega), fun _ => ?_⟩
            refine mp_sign (TX_f hT F6) c19 wL (by unfold am_rg; omega) (fun x3 x4 => ⟨by unfold am_rg; omega, fun e => absurd e (by omega), fun _ => ?_⟩) (fun x3 => ⟨by unfold am_rg; omega, fun _ => ?_, fun e => absurd rfl e⟩)
            · have e0 : st t (w + 1) = 0 := by
                rw [st_s (by omega), x4]
                unfold pa; (repeat' split) <;> omega
              have ec : cn t (w + 1) = cn t w + 1 := by show (if t (w : Int) = 44 then cn t w + 1 else cn t w) = _; rw [if_pos x4]
              have eT : TA t (w + 1) = fun j => if j = cn t w then tm t w else TA t w j := by show (if t (w : Int) = 44 then (fun j => if j = cn t w then tm t w else TA t w j) else TA t w) = _; rw [if_pos x4]
              have eV : VA t (w + 1) = fun j => if j = cn t w then sg t w * nu t w else VA t w j := by show (if t (w : Int) = 44 then (fun j => if j = cn t w then sg t w * nu t w else VA t w j) else VA t w) = _; rw [if_pos x4]
              refine q1 (w + 1) _ (by omega) (by omega) (Frs_u F6 (by omega)) (by rw [am_up_s]; omega) e0 ⟨?_, fun k k0 k1 => ?_⟩
              · rw [am_up_n (by omega), c17, ec]
              · rw [am_up_r (by omega), am_up_r (by omega), eT, eV]
                exact ⟨c78 k k0 (by omega), c79 k k0 (by omega)⟩
            · refine q0 w _ (Frs_u F6 (by omega)) ⟨wL, am_up_s, by omega, ?_, Or.inr (by rw [am_up_n (by omega)]; exact c18), ?_, fun _ => ⟨by rw [am_up_n (by omega)]; exact c17, fun k k0 k1 => ?_⟩⟩
              · by_cases y : (w : Int) = L
                · exact Or.inl y
                · refine Or.inr ?_
                  have x5 : t (w : Int) ≠ 44 := fun z => x3 ⟨by omega, z⟩
                  rcases st5 with z | z
                  · exact absurd z y
                  · by_cases d : 48 ≤ t (w : Int) ∧ t (w : Int) ≤ 57
                    · exact z d.1 d.2
                    · unfold pa; (repeat' split) <;> omega
              · rw [am_up_n (by omega), c18]; exact ⟨fun _ => by omega, fun _ => rfl⟩
              · rw [am_up_r (by omega), am_up_r (by omega)]
                exact ⟨c78 k k0 k1, c79 k k0 k1⟩
          have e17 : M5 69 17 = cn t p := by rw [z17, y17]
          unfold wj_X6_readPoint_79
          rw [z20, e17]
          refine ⟨by unfold am_rg; omega, fun e => last _ ?_, fun e => last _ ?_⟩
          · rcases hv with h | h
            · rw [esg5, h.2.2.2]; omega
            · omega
          · rcases hv with h | h
            · omega
            · rw [esg5, h.2.2]; omega
      refine ⟨by unfold am_rg; omega, fun e => absurd e (by omega), fun _ => ?_⟩
      refine mp_sign (TX_f hT F3) k19 (by omega) (by unfold am_rg; omega) (fun x3 x4 => ⟨by unfold am_rg; omega, fun e => absurd e (by omega), fun _ => ?_⟩) (fun x3 => ⟨by unfold am_rg; omega, fun _ => ?_, fun e => absurd rfl e⟩)
      · have e7 : st t (q + 1 + 1) = 7 := by
          rw [st_s (by omega), x4, e6]
          rfl
        refine val (q + 1 + 1) _ 1 (Or.inr ⟨rfl, e7, ?_⟩) (by omega) (by omega) ?_ (SP_t sp6 ⟨?_, ?_, ?_⟩) (Frs_u F3 (by omega)) (by rw [am_up_n (by omega)]; exact k17) (by rw [am_up_s]; omega) (by rw [am_up_r (by omega)]; exact k78) (by rw [am_up_r (by omega)]; exact k79)
        · show (if t ((q + 1 : Nat) : Int) = 58 then 1 else if t ((q + 1 : Nat) : Int) = 45 then -1 else sg t (q + 1)) = -1
          rw [if_neg (by omega), if_pos x4]
        · show (if t ((q + 1 : Nat) : Int) = 58 then nu t (q + 1) else tm t (q + 1)) = nu t q
          rw [if_neg (by omega)]; exact t6
        · show (if t ((q + 1 : Nat) : Int) = 44 then cn t (q + 1) + 1 else cn t (q + 1)) = cn t (q + 1)
          rw [if_neg (by omega)]
        · show (if t ((q + 1 : Nat) : Int) = 44 then (fun j => if j = cn t (q + 1) then tm t (q + 1) else TA t (q + 1) j) else TA t (q + 1)) = TA t (q + 1)
          rw [if_neg (by omega)]
        · show (if t ((q + 1 : Nat) : Int) = 44 then (fun j => if j = cn t (q + 1) then sg t (q + 1) * nu t (q + 1) else VA t (q + 1) j) else VA t (q + 1)) = VA t (q + 1)
          rw [if_neg (by omega)]
      · exact val (q + 1) _ 0 (Or.inl ⟨rfl, e6, fun z w => x3 ⟨z, w⟩, g6⟩) (by omega) (by omega) t6 sp6 (Frs_u F3 (by omega)) (by rw [am_up_n (by omega)]; exact k17) (by rw [am_up_s]) (by rw [am_up_r (by omega)]; exact k78) (by rw [am_up_r (by omega)]; exact k79)
    · -- no colon
      refine ⟨by unfold am_rg; omega, fun _ => ⟨by unfold am_rg; omega, fun _ => ?_, fun e => absurd rfl e⟩, fun e => absurd rfl e⟩
      refine mp_bad (t := t) (L := L) (q := q) (M0 := M) (Frs_u F2 (by omega)) (Or.inl rfl) (by rw [am_up_n (by omega), d17]; omega) am_up_s qL (by omega) (by omega) ?_ q0
      by_cases y : (q : Int) = L
      · exact Or.inl y
      · refine Or.inr ?_
        have x5 : t (q : Int) ≠ 58 := fun z => x ⟨by omega, z⟩
        rcases st1 with z | z
        · exact absurd z y
        · by_cases d : 48 ≤ t (q : Int) ∧ t (q : Int) ≤ 57
          · exact z d.1 d.2
          · unfold pa; (repeat' split) <;> omega
theorem mp_reads {t : Int → Int} {L : Int} {M : am_M} {Q : Int → am_M → Prop} (hT : TX t L M) (hq : ∀ (q : Nat) M', Frs M M' → RE t L q M' → Q (q : Int) M') : wp_X6_reads M Q := by
  have hLL := hT.2.1
  have loop : ∀ (r p : Nat) (M1 : am_M), L - (p : Int) ≤ r → (p : Int) ≤ L → Frs M M1 → M1 69 19 = (p : Int) → st t p = 0 → RW t p M1 → wl_X6_reads_12 Q (r + 1 + 1) 1 M1 := by
    intro r
    induction r with
    | zero =>
      intro p M1 hr hp f a19 hs hR
      have hcn := cn_b (t := t) (i := p) (by omega)
      refine ⟨by unfold am_rg; omega, fun e => absurd e (by omega), fun _ => ⟨by rw [hR.1]; unfold am_rg; omega, fun e => absurd (hR.1 ▸ e) (by omega), fun _ => ?_⟩⟩
      refine mp_readPoint (TX_f hT f) a19 hp hs hR (fun q M2 f2 re => ⟨by unfold am_rg; omega, fun _ => ?_, fun e => absurd rfl e⟩) (fun q M2 pq qL f2 _ _ _ => by omega)
      rw [re.2.1]
      exact hq q M2 (Frs_t f f2) re
    | succ r ih =>
      intro p M1 hr hp f a19 hs hR
      have hcn := cn_b (t := t) (i := p) (by omega)
      refine ⟨by unfold am_rg; omega, fun e => absurd e (by omega), fun _ => ⟨by rw [hR.1]; unfold am_rg; omega, fun e => absurd (hR.1 ▸ e) (by omega), fun _ => ?_⟩⟩
      refine mp_readPoint (TX_f hT f) a19 hp hs hR (fun q M2 f2 re => ⟨by unfold am_rg; omega, fun _ => ?_, fun e => absurd rfl e⟩) (fun q M2 pq qL f2 b19 s2 R2 => ih q M2 (by omega) qL (Frs_t f f2) b19 s2 R2)
      rw [re.2.1]
      exact hq q M2 (Frs_t f f2) re
  refine ⟨_, loop L.toNat 0 _ (by omega) (by omega) (Frs_u (Frs_u Frs_r (by omega)) (by omega)) (by rw [am_up_n (by omega), am_up_s]; rfl) rfl ⟨by rw [am_up_s]; rfl, fun k k0 k1 => absurd k1 (by unfold cn; omega)⟩⟩
theorem RE_G {t : Int → Int} {L : Int} {q : Nat} {M' : am_M} (h : RE t L q M') : GL t L (q : Int) := by
  obtain ⟨h1, h2, h3, h4, -⟩ := h
  refine ⟨by omega, h1, ?_, ?_⟩
  · rw [show ((q : Int)).toNat = q by omega]; exact h3
  · rw [show ((q : Int)).toNat = q by omega]; exact h4
theorem TX_0 {t : Int → Int} {L x : Int} {M : am_M} (h : TX t L M) : TX t L (am_up M 69 5 x) := by
  unfold TX at h ⊢
  rw [am_up_n (by omega), am_up_r (by omega)]
  exact h
theorem mp_firstError {t : Int → Int} {L : Int} {M : am_M} {Q : Int → am_M → Prop} (hT : TX t L M) (hq : ∀ r M', GL t L r → Frs (am_up M 69 5 0) M' → Q r M') : wp_X6_firstError M Q :=
  mp_reads (TX_0 hT) (fun q M' f re => hq (q : Int) M' (RE_G re) f)
