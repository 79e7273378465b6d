/-! the reference's changes -/
theorem up70 {M : am_M} {j x : Int} : am_up M 70 j x 70 = upR (M 70) j x := by
  funext i
  unfold am_up upR
  by_cases z : i = j
  · rw [if_pos ⟨rfl, z⟩, if_pos z]
  · rw [if_neg (fun y => z y.2), if_neg z]
theorem upR_s {f : Int → Int} {j x : Int} : upR f j x j = x := by unfold upR; rw [if_pos rfl]
theorem upR_n {f : Int → Int} {j x i : Int} (h : i ≠ j) : upR f j x i = f i := by unfold upR; rw [if_neg h]
def Fmu (M M' : am_M) : Prop := (∀ k, k ≠ 69 → k ≠ 70 → k ≠ 71 → (k < 75 ∨ 77 < k) → M' k = M k) ∧ (∀ j, (j < 9 ∨ 12 < j) → j ≠ 2 → j ≠ 5 → M' 69 j = M 69 j)
/-- an answer of the reference that changes the diary -/
def Rm (M D' : am_M) (Q : Int → am_M → Prop) (x : Int) : Prop := ∀ M', Fmu M M' → HPm M M' → Mqr (M' 70) D' → M' 69 5 = 0 → Q x M'
theorem HPm_t {A B A' B' : am_M} (h : HPm A B) (a2 : A' 69 2 = A 69 2) (a70 : A' 70 = A 70) (a71 : A' 71 = A 71) (b2 : B' 69 2 = B 69 2) (b71 : B' 71 = B 71) : HPm A' B' := by
  unfold HPm at h ⊢
  rw [a2, a70, a71, b2, b71]
  exact h
/-- saved, then changed -/
theorem mp_saved {M : am_M} {Q : am_M → Prop} (h2 : 0 ≤ M 69 2 ∧ M 69 2 ≤ 6) (hq : ∀ M1, (∀ k, k ≠ 69 → k ≠ 71 → M1 k = M k) → (∀ j, j ≠ 2 → j ≠ 5 → M1 69 j = M 69 j) → HPm M M1 → M1 69 5 = 0 → Q M1) : wp_X6_save (am_up M 69 5 0) Q :=
  mp_save (by rw [am_up_n (by omega)]; exact h2) (fun M1 f g h => hq M1 (fun k k1 k2 => by rw [f k k1 k2, am_up_r k1]) (fun j j2 j5 => by rw [g j j2, am_up_n j5]) (HPm_t h (am_up_n (by omega)).symm (am_up_r (by omega)).symm (am_up_r (by omega)).symm rfl rfl) (by rw [g 5 (by omega), am_up_s]))
theorem mp_saved' {M N : am_M} {Q : am_M → Prop} (f : Fq (am_up M 69 5 0) N) (h2 : 0 ≤ M 69 2 ∧ M 69 2 ≤ 6) (hq : ∀ M1, (∀ k, k ≠ 69 → k ≠ 71 → M1 k = N k) → (∀ j, j ≠ 2 → M1 69 j = N 69 j) → HPm M M1 → M1 69 5 = 0 → Q M1) : wp_X6_save N Q := by
  have e2 : N 69 2 = M 69 2 := by rw [f.2 2 (by omega), am_up_n (by omega)]
  have e70 : N 70 = M 70 := by rw [f.1 70 (by omega) (by omega), am_up_r (by omega)]
  have e71 : N 71 = M 71 := by rw [f.1 71 (by omega) (by omega), am_up_r (by omega)]
  exact mp_save (by rw [e2]; exact h2) (fun M1 g1 g2 h => hq M1 g1 g2 (HPm_t h e2.symm e70.symm e71.symm rfl rfl) (by rw [g2 5 (by omega)]; exact (Fp_0 f).2))
theorem Fmu_s {M N M1 : am_M} (f : Fq (am_up M 69 5 0) N) (g1 : ∀ k, k ≠ 69 → k ≠ 71 → M1 k = N k) (g2 : ∀ j, j ≠ 2 → M1 69 j = N 69 j) : Fmu M M1 :=
  ⟨fun k a b d e => by rw [g1 k a d]; exact (Fp_0 f).1.1 k a e, fun j a b d => by rw [g2 j b]; exact (Fp_0 f).1.2 j a d⟩
theorem Fmu_q {A B C : am_M} (h : Fmu A B) (f : Fq B C) : Fmu A C := ⟨fun k a b d e => (f.1 k a e).trans (h.1 k a b d e), fun j a b d => (f.2 j a).trans (h.2 j a b d)⟩
theorem Fmu_u {A B : am_M} {j x : Int} (h : Fmu A B) : Fmu A (am_up B 70 j x) := ⟨fun k a b d e => by rw [am_up_r b]; exact h.1 k a b d e, fun i a b d => by rw [am_up_r (by omega)]; exact h.2 i a b d⟩
theorem HPm_u {A B : am_M} {j x : Int} (h : HPm A B) : HPm A (am_up B 70 j x) := HPm_t h rfl rfl rfl (by rw [am_up_r (by omega)]) (am_up_r (by omega))
theorem HPm_q {A B C : am_M} (h : HPm A B) (f : Fq B C) : HPm A C := HPm_t h rfl rfl rfl (f.2 2 (by omega)) (f.1 71 (by omega) (by omega))
theorem Mqr_up3 {q : Int → Int} {D : am_M} {p v : Int} (hm : Mqr q D) (hp : 0 ≤ p ∧ p < D 1 7) (hn : D 1 7 ≤ 60) : Mqr (upR q (67 + p) v) (am_up D 3 p v) := by
  obtain ⟨h1, h2, h3, h4, h5, h6, h7, h8, h9⟩ := hm
  unfold Mqr
  simp (disch := omega) only [am_up_r, upR_n]
  refine ⟨h1, h2, h3, h4, h5, h6, h7, fun i i0 i1 => ?_, fun k k0 k1 => ?_⟩
  · obtain ⟨a, b, d⟩ := h8 i i0 i1
    rw [upR_n (i := 7 + i) (by omega), upR_n (i := 127 + i) (by omega)]
    refine ⟨a, ?_, d⟩
    by_cases z : i = p
    · rw [z, upR_s, am_up_s]
    · rw [upR_n (by omega), am_up_n z]; exact b
  · rw [upR_n (by omega), upR_n (by omega)]; exact h9 k k0 k1
theorem Mqr_up4 {q : Int → Int} {D : am_M} {p v : Int} (hm : Mqr q D) (hp : 0 ≤ p ∧ p < D 1 7) (hn : D 1 7 ≤ 60) : Mqr (upR q (127 + p) v) (am_up D 4 p v) := by
  obtain ⟨h1, h2, h3, h4, h5, h6, h7, h8, h9⟩ := hm
  unfold Mqr
  simp (disch := omega) only [am_up_r, upR_n]
  refine ⟨h1, h2, h3, h4, h5, h6, h7, fun i i0 i1 => ?_, fun k k0 k1 => ?_⟩
  · obtain ⟨a, b, d⟩ := h8 i i0 i1
    rw [upR_n (by omega), upR_n (by omega)]
    refine ⟨a, b, ?_⟩
    by_cases z : i = p
    · rw [z, upR_s, am_up_s]
    · rw [upR_n (by omega), am_up_n z]; exact d
  · rw [upR_n (by omega), upR_n (by omega)]; exact h9 k k0 k1
theorem mp_correct {p v : Int} {D M : am_M} {Q : Int → am_M → Prop} {c : Int} (hd : OKd c D) (hm : Mqr (M 70) D) (h2 : 0 ≤ M 69 2 ∧ M 69 2 ≤ 6) (rp : am_rg p) (rv : am_rg v)
    (x1 : ¬ (0 ≤ p ∧ p < D 1 7) → Rf M Q 1) (x2 : 0 ≤ p ∧ p < D 1 7 → ¬ (-999 ≤ v ∧ v ≤ 999) → Rf M Q 2) (hq : 0 ≤ p ∧ p < D 1 7 → -999 ≤ v ∧ v ≤ 999 → Rm M (am_up D 3 p v) Q (D 3 p)) : wp_X6_correct p v M Q := by
  have hm0 := Fp_hm hm
  have n1 := hd.1
  refine mp_isPoint hd hm0 rp (fun h => ⟨by unfold am_rg; omega, fun _ => mp_in rv (by unfold am_rg; omega) (by unfold am_rg; omega) (fun hv => ⟨by unfold am_rg; omega, fun _ => ?_, fun e => absurd (by omega) e⟩) (fun hv => ⟨by unfold am_rg; omega, fun e => absurd rfl e, fun _ => Rf_a (x2 h hv) Fq_r⟩), fun e => absurd (by omega) e⟩) (fun h => ⟨by unfold am_rg; omega, fun e => absurd rfl e, fun _ => Rf_a (x1 h) Fq_r⟩)
  refine mp_saved' Fq_r h2 (fun M1 g1 g2 hp1 e5 => ?_)
  have hm1 : Mqr (M1 70) D := by rw [g1 70 (by omega) (by omega)]; exact hm0
  refine mp_value hd hm1 h ⟨by omega, hq h hv _ (Fmu_u (Fmu_s Fq_r g1 g2)) (HPm_u hp1) ?_ (by rw [am_up_r (by omega)]; exact e5)⟩
  rw [up70]
  exact Mqr_up3 hm1 h n1.2
theorem mp_keeps {p x : Int} {D M N : am_M} {Q : Int → am_M → Prop} {c : Int} (hd : OKd c D) (hm : Mqr (M 70) D) (h2 : 0 ≤ M 69 2 ∧ M 69 2 ≤ 6) (f : Fq (am_up M 69 5 0) N) (hx : x = 0 ∨ x = 1) (h : 0 ≤ p ∧ p < D 1 7)
    (hq : Rm M (am_up D 4 p x) Q (kc (am_up D 4 p x) (D 1 7).toNat)) : wp_X6_keeps p x N Q := by
  have hm0 := Fq_m (Fp_hm hm) f
  have n1 := hd.1
  refine mp_saved' f h2 (fun M1 g1 g2 hp1 e5 => ⟨by omega, ?_⟩)
  have hm1 : Mqr (M1 70) D := by rw [g1 70 (by omega) (by omega)]; exact hm0
  have hm2 : Mqr (am_up M1 70 (127 + p) x 70) (am_up D 4 p x) := by rw [up70]; exact Mqr_up4 hm1 h n1.2
  refine mp_keptMany (OKd_up4 hd hx) hm2 ?_
  rw [am_up_r (by omega)]
  exact hq _ (Fmu_u (Fmu_s f g1 g2)) (HPm_u hp1) hm2 (by rw [am_up_r (by omega)]; exact e5)
theorem mp_drop {p : Int} {D M : am_M} {Q : Int → am_M → Prop} {c : Int} (hd : OKd c D) (hs : OKs D) (hm : Mqr (M 70) D) (h2 : 0 ≤ M 69 2 ∧ M 69 2 ≤ 6) (rp : am_rg p)
    (x1 : ¬ (0 ≤ p ∧ p < D 1 7) → Rf M Q 1) (x2 : 0 ≤ p ∧ p < D 1 7 → rk D p ≠ 0 → Rf M Q 2) (hq : 0 ≤ p ∧ p < D 1 7 → rk D p = 0 → Rm M (am_up D 4 p 0) Q (kc (am_up D 4 p 0) (D 1 7).toNat)) : wp_X6_drop p M Q := by
  have hm0 := Fp_hm hm
  have rb := rk_b D p
  exact mp_isPoint hd hm0 rp (fun h => ⟨by unfold am_rg; omega, fun _ => mp_against hd hs hm0 h (fun M1 f1 _ => ⟨by unfold am_rg; omega, fun e => mp_keeps hd hm h2 f1 (Or.inl rfl) h (hq h (by omega)), fun e => Rf_a (x2 h (by omega)) f1⟩), fun e => absurd (by omega) e⟩) (fun h => ⟨by unfold am_rg; omega, fun e => absurd rfl e, fun _ => Rf_a (x1 h) Fq_r⟩)
theorem mp_keep {p : Int} {D M : am_M} {Q : Int → am_M → Prop} {c : Int} (hd : OKd c D) (hm : Mqr (M 70) D) (h2 : 0 ≤ M 69 2 ∧ M 69 2 ≤ 6) (rp : am_rg p)
    (x1 : ¬ (0 ≤ p ∧ p < D 1 7) → Rf M Q 1) (x2 : 0 ≤ p ∧ p < D 1 7 → D 4 p = 1 → Rf M Q 2) (hq : 0 ≤ p ∧ p < D 1 7 → D 4 p ≠ 1 → Rm M (am_up D 4 p 1) Q (kc (am_up D 4 p 1) (D 1 7).toNat)) : wp_X6_keep p M Q := by
  have hm0 := Fp_hm hm
  exact mp_isPoint hd hm0 rp (fun h => ⟨by unfold am_rg; omega, fun _ => mp_isKept hd hm0 h (fun k => ⟨by unfold am_rg; omega, fun e => absurd e (by omega), fun _ => Rf_a (x2 h k) Fq_r⟩) (fun k => ⟨by unfold am_rg; omega, fun _ => mp_keeps hd hm h2 Fq_r (Or.inr rfl) h (hq h k), fun e => absurd rfl e⟩), fun e => absurd (by omega) e⟩) (fun h => ⟨by unfold am_rg; omega, fun e => absurd rfl e, fun _ => Rf_a (x1 h) Fq_r⟩)
/-- the bounds of the settings -/
def LH (M : am_M) : Prop := M 73 0 = 0 ∧ M 73 1 = 1 ∧ M 73 2 = 0 ∧ M 74 0 = 500 ∧ M 74 1 = 2000 ∧ M 74 2 = 1
theorem Mqr_up6 {q : Int → Int} {D : am_M} {s v : Int} (hm : Mqr q D) (hs : 0 ≤ s ∧ s < 3) : Mqr (upR q (4 + s) v) (am_up D 6 s v) ∧ q (4 + s) = D 6 s := by
  obtain ⟨h1, h2, h3, h4, h5, h6, h7, h8, h9⟩ := hm
  have hs3 : s = 0 ∨ s = 1 ∨ s = 2 := by omega
  refine ⟨?_, ?_⟩
  · unfold Mqr
    simp (disch := omega) only [am_up_r]
    rw [upR_n (show (0 : Int) ≠ 4 + s by omega), upR_n (show (1 : Int) ≠ 4 + s by omega), upR_n (show (2 : Int) ≠ 4 + s by omega), upR_n (show (3 : Int) ≠ 4 + s by omega)]
    refine ⟨h1, h2, h3, h4, ?_, ?_, ?_, fun i i0 i1 => ?_, fun k k0 k1 => ?_⟩
    · rcases hs3 with z | z | z <;> subst z
      · rw [am_up_s]; exact upR_s
      · rw [am_up_n (by omega), upR_n (by omega)]; exact h5
      · rw [am_up_n (by omega), upR_n (by omega)]; exact h5
    · rcases hs3 with z | z | z <;> subst z
      · rw [am_up_n (by omega), upR_n (by omega)]; exact h6
      · rw [am_up_s]; exact upR_s
      · rw [am_up_n (by omega), upR_n (by omega)]; exact h6
    · rcases hs3 with z | z | z <;> subst z
      · rw [am_up_n (by omega), upR_n (by omega)]; exact h7
      · rw [am_up_n (by omega), upR_n (by omega)]; exact h7
      · rw [am_up_s]; exact upR_s
    · rw [upR_n (by omega), upR_n (by omega), upR_n (by omega)]; exact h8 i i0 i1
    · rw [upR_n (by omega), upR_n (by omega)]; exact h9 k k0 k1
  · rcases hs3 with z | z | z <;> subst z
    · exact h5
    · exact h6
    · exact h7
theorem mp_set {s v : Int} {D M : am_M} {Q : Int → am_M → Prop} (hm : Mqr (M 70) D) (hL : LH M) (h2 : 0 ≤ M 69 2 ∧ M 69 2 ≤ 6) (rp : am_rg s) (rv : am_rg v)
    (x1 : ¬ (0 ≤ s ∧ s < 3) → Rf M Q 1) (x2 : 0 ≤ s ∧ s < 3 → ¬ isv s v → Rf M Q 2) (hq : 0 ≤ s ∧ s < 3 → isv s v → Rm M (am_up D 6 s v) Q (D 6 s)) : wp_X6_set s v M Q := by
  have hm0 := Fp_hm hm
  refine mp_in rp (by unfold am_rg; omega) (by unfold am_rg; omega) (fun h => ⟨by unfold am_rg; omega, fun _ => ⟨by omega, by omega, ?_⟩, fun e => absurd (by omega) e⟩) (fun h => ⟨by unfold am_rg; omega, fun e => absurd rfl e, fun _ => Rf_a (x1 (by omega)) Fq_r⟩)
  rw [am_up_r (by omega), am_up_r (by omega)]
  obtain ⟨l0, l1, l2, m0, m1, m2⟩ := hL
  have hs3 : s = 0 ∨ s = 1 ∨ s = 2 := by omega
  have key : (am_rg (M 73 s) ∧ am_rg (M 74 s)) ∧ (isv s v ↔ M 73 s ≤ v ∧ v ≤ M 74 s) := by
    unfold isv am_rg
    rcases hs3 with z | z | z <;> subst z
    · rw [l0, m0]; omega
    · rw [l1, m1]; omega
    · rw [l2, m2]; omega
  refine mp_in rv key.1.1 key.1.2 (fun hv => ⟨by unfold am_rg; omega, fun _ => ?_, fun e => absurd (by omega) e⟩) (fun hv => ⟨by unfold am_rg; omega, fun e => absurd rfl e, fun _ => Rf_a (x2 (by omega) (fun z => hv (key.2.mp z))) Fq_r⟩)
  refine mp_saved' Fq_r h2 (fun M1 g1 g2 hp1 e5 => ⟨by omega, by omega, ?_⟩)
  have hm1 : Mqr (M1 70) D := by rw [g1 70 (by omega) (by omega)]; exact hm0
  obtain ⟨a, b⟩ := Mqr_up6 (v := v) hm1 (show 0 ≤ s ∧ s < 3 by omega)
  rw [b]
  exact hq (by omega) (key.2.mpr hv) _ (Fmu_u (Fmu_s Fq_r g1 g2)) (HPm_u hp1) (by rw [up70]; exact a) (by rw [am_up_r (by omega)]; exact e5)
theorem mp_isEntry {t v : Int} {M : am_M} {Q : Int → am_M → Prop} (rt : am_rg t) (rv : am_rg v) (q1 : (0 ≤ t ∧ t ≤ 9999) ∧ (-999 ≤ v ∧ v ≤ 999) → Q 1 M) (q0 : ¬ ((0 ≤ t ∧ t ≤ 9999) ∧ (-999 ≤ v ∧ v ≤ 999)) → Q 0 M) : wp_X6_isEntry t v M Q :=
  mp_in rt (by unfold am_rg; omega) (by unfold am_rg; omega) (fun h => ⟨by unfold am_rg; omega, fun e => absurd e (by omega), fun _ => mp_in rv (by unfold am_rg; omega) (by unfold am_rg; omega) (fun g => ⟨by unfold am_rg; omega, fun e => absurd e (by omega), fun _ => q1 ⟨h, g⟩⟩) (fun g => ⟨by unfold am_rg; omega, fun _ => q0 (fun z => g z.2), fun e => absurd rfl e⟩)⟩) (fun h => ⟨by unfold am_rg; omega, fun _ => q0 (fun z => h z.1), fun e => absurd rfl e⟩)
theorem Mqr_nt {q : Int → Int} {D : am_M} {t v : Int} (hm : Mqr q D) (h8 : 0 ≤ D 1 8 ∧ D 1 8 < 8) (hn : D 1 7 ≤ 60) : Mqr (upR (upR (upR q (187 + 2 * D 1 8) t) (187 + 2 * D 1 8 + 1) v) 1 (D 1 8 + 1)) (ntD D t v) := by
  obtain ⟨h1, h2, h3, h4, h5, h6, h7, hr, h9⟩ := hm
  unfold Mqr ntD
  simp (disch := omega) only [am_up_r, am_up_n, am_up_s, upR_n, upR_s]
  refine ⟨h1, trivial, h3, h4, h5, h6, h7, fun i i0 i1 => ?_, fun k k0 k1 => ?_⟩
  · simp (disch := omega) only [upR_n]
    exact hr i i0 i1
  · by_cases z : k = D 1 8
    · rw [z]
      simp (disch := omega) only [am_up_s, upR_n, upR_s]
      exact ⟨trivial, trivial⟩
    · simp (disch := omega) only [am_up_n, upR_n]
      exact h9 k k0 (by omega)
theorem mp_note {t v : Int} {D M : am_M} {Q : Int → am_M → Prop} {c : Int} (hd : OKd c D) (hm : Mqr (M 70) D) (h2 : 0 ≤ M 69 2 ∧ M 69 2 ≤ 6) (rt : am_rg t) (rv : am_rg v)
    (x1 : ¬ ((0 ≤ t ∧ t ≤ 9999) ∧ (-999 ≤ v ∧ v ≤ 999)) → Rf M Q 1) (x2 : (0 ≤ t ∧ t ≤ 9999) ∧ (-999 ≤ v ∧ v ≤ 999) → D 1 8 = 8 → Rf M Q 2) (hq : (0 ≤ t ∧ t ≤ 9999) ∧ (-999 ≤ v ∧ v ≤ 999) → D 1 8 < 8 → Rm M (ntD D t v) Q (D 1 8)) : wp_X6_note t v M Q := by
  have hm0 := Fp_hm hm
  have n1 := hd.1
  have h8 := hd.2.2.2.2.2.2.1
  refine mp_isEntry rt rv (fun h => ⟨by unfold am_rg; omega, fun _ => ?_, fun e => absurd (by omega) e⟩) (fun h => ⟨by unfold am_rg; omega, fun e => absurd rfl e, fun _ => Rf_a (x1 h) Fq_r⟩)
  rw [hm0.2.1]
  refine ⟨by unfold am_rg; omega, fun e => ?_, fun e => Rf_a (x2 h (by omega)) Fq_r⟩
  refine mp_saved' Fq_r h2 (fun M1 g1 g2 hp1 e5 => ?_)
  have hm1 : Mqr (M1 70) D := by rw [g1 70 (by omega) (by omega)]; exact hm0
  have e1 : M1 70 1 = D 1 8 := hm1.2.1
  have e1' : am_up M1 70 (187 + 2 * D 1 8) t 70 1 = D 1 8 := by rw [am_up_n (by omega)]; exact e1
  have e1'' : am_up (am_up M1 70 (187 + 2 * D 1 8) t) 70 (187 + 2 * D 1 8 + 1) v 70 1 = D 1 8 := by rw [am_up_n (by omega)]; exact e1'
  rw [e1, e1', e1'', am_up_s, show D 1 8 + 1 - 1 = D 1 8 by omega]
  refine ⟨by omega, by omega, hq h (by omega) _ (Fmu_u (Fmu_u (Fmu_u (Fmu_s Fq_r g1 g2)))) (HPm_u (HPm_u (HPm_u hp1))) ?_ (by rw [am_up_r (by omega), am_up_r (by omega), am_up_r (by omega)]; exact e5)⟩
  rw [up70, up70, up70]
  exact Mqr_nt hm1 (by omega) n1.2
theorem mp_hasTime {t : Int} {D M : am_M} {Q : Int → am_M → Prop} {c : Int} (hd : OKd c D) (hm : Mqr (M 70) D) (rt : am_rg t) (q1 : (∃ i, 0 ≤ i ∧ i < D 1 7 ∧ D 2 i = t) → Q 1 M) (q0 : (∀ i, 0 ≤ i → i < D 1 7 → D 2 i ≠ t) → Q 0 M) : wp_X6_hasTime t M Q := by
  have n1 := hd.1
  have loop : ∀ (r : Nat) (v k : Int), 0 ≤ k → k + r = D 1 7 → ((v = 0 ∧ ∀ i, 0 ≤ i → i < k → D 2 i ≠ t) ∨ (v = 1 ∧ ∃ i, 0 ≤ i ∧ i < k ∧ D 2 i = t)) → wl_X6_hasTime_4 Q (r + 1) t v k M := by
    intro r
    induction r with
    | zero =>
      intro v k k0 hk inv
      rw [wl_X6_hasTime_4, hm.1]
      refine ⟨by unfold am_rg; omega, by unfold am_rg; omega, fun _ => ?_, fun e => absurd e (by omega)⟩
      rcases inv with ⟨z, no⟩ | ⟨z, i, i0, i1, i2⟩
      · rw [z]; exact ⟨Or.inl rfl, q0 (fun i i0 i1 => no i i0 (by omega))⟩
      · rw [z]; exact ⟨Or.inr rfl, q1 ⟨i, i0, by omega, i2⟩⟩
    | succ r ih =>
      intro v k k0 hk inv
      have hp : 0 ≤ k ∧ k < D 1 7 := ⟨k0, by omega⟩
      have tk := OKd_t hd hp.1 hp.2
      rw [wl_X6_hasTime_4, hm.1]
      refine ⟨by unfold am_rg; omega, by unfold am_rg; omega, fun e => absurd e (by omega), fun _ => ⟨by unfold am_rg; omega, fun e => ?_, fun e => ?_⟩⟩
      · rcases inv with ⟨z, no⟩ | ⟨z, i, i0, i1, i2⟩
        · exact absurd z e
        · exact ih 1 (k + 1) (by omega) (by omega) (Or.inr ⟨rfl, i, i0, by omega, i2⟩)
      · rcases inv with ⟨z, no⟩ | ⟨z, -⟩
        · refine mp_time hd hm hp ⟨by unfold am_rg; omega, rt, fun y => ih 0 (k + 1) (by omega) (by omega) (Or.inl ⟨rfl, fun i i0 i1 => ?_⟩), fun y => ih 1 (k + 1) (by omega) (by omega) (Or.inr ⟨rfl, k, by omega, by omega, by omega⟩)⟩
          by_cases x : i = k
          · rw [x]; exact y
          · exact no i i0 (by omega)
        · omega
  exact ⟨_, loop (D 1 7).toNat 0 0 (by omega) (by omega) (Or.inl ⟨rfl, fun i i0 i1 => by omega⟩)⟩
/-- rows of the reference's numbers around a place to put in -/
def AI (q0 q : Int → Int) (D : am_M) (p : Int) : Prop := (∀ j, (j < 7 ∨ 187 ≤ j) → q j = q0 j) ∧ (∀ i, 0 ≤ i → i < p → q (7 + i) = D 2 i ∧ q (67 + i) = D 3 i ∧ q (127 + i) = D 4 i) ∧ (∀ i, p < i → i ≤ D 1 7 → q (7 + i) = D 2 (i - 1) ∧ q (67 + i) = D 3 (i - 1) ∧ q (127 + i) = D 4 (i - 1))
theorem AI_s {q0 q : Int → Int} {D : am_M} {p : Int} (hn : D 1 7 < 60) (hp : 0 < p ∧ p ≤ D 1 7) (h : AI q0 q D p) : AI q0 (upR (upR (upR q (7 + p) (q (7 + p - 1))) (67 + p) (upR q (7 + p) (q (7 + p - 1)) (67 + p - 1))) (127 + p) (upR (upR q (7 + p) (q (7 + p - 1))) (67 + p) (upR q (7 + p) (q (7 + p - 1)) (67 + p - 1)) (127 + p - 1))) D (p + (-1)) := by
  obtain ⟨a, b, d⟩ := h
  obtain ⟨b1, b2, b3⟩ := b (p - 1) (by omega) (by omega)
  rw [show 7 + (p - 1) = 7 + p - 1 by omega] at b1
  rw [show 67 + (p - 1) = 67 + p - 1 by omega] at b2
  rw [show 127 + (p - 1) = 127 + p - 1 by omega] at b3
  refine ⟨fun j hj => ?_, fun i i0 i1 => ?_, fun i i0 i1 => ?_⟩
  · simp (disch := omega) only [upR_n]; exact a j hj
  · simp (disch := omega) only [upR_n]; exact b i i0 (by omega)
  · by_cases z : i = p
    · rw [z]
      simp (disch := omega) only [upR_n, upR_s]
      exact ⟨b1, b2, b3⟩
    · simp (disch := omega) only [upR_n]
      exact d i (by omega) i1
theorem AI_e {q0 q : Int → Int} {D : am_M} {t v : Int} (hm : Mqr q0 D) (n0 : 0 ≤ D 1 7) (hn : D 1 7 < 60) (h : AI q0 q D (pl D t)) : Mqr (upR (upR (upR (upR q (7 + pl D t) t) (67 + pl D t) v) (127 + pl D t) 1) 0 (D 1 7 + 1)) (insD D t v) := by
  have hp := pl_s (D := D) (t := t) n0
  obtain ⟨h1, h2, h3, h4, h5, h6, h7, hr, h9⟩ := hm
  obtain ⟨a, b, d⟩ := h
  unfold Mqr
  rw [insD_7, insD_1 (by omega), insD_1 (by omega), insD_1 (by omega), insD_2, insD_3, insD_4, insD_k (k := 6) (by omega), insD_k (k := 7) (by omega), insD_k (k := 8) (by omega)]
  simp (disch := omega) only [upR_n, upR_s]
  refine ⟨trivial, (a 1 (by omega)).trans h2, (a 2 (by omega)).trans h3, (a 3 (by omega)).trans h4, (a 4 (by omega)).trans h5, (a 5 (by omega)).trans h6, (a 6 (by omega)).trans h7, fun i i0 i1 => ?_, fun k k0 k1 => ?_⟩
  · unfold insR
    by_cases z : i < pl D t
    · simp only [if_pos z]
      simp (disch := omega) only [upR_n]
      exact b i i0 z
    · by_cases y : i = pl D t
      · rw [y]
        simp (disch := omega) only [upR_n, upR_s]
        simp
      · simp only [if_neg z, if_neg y]
        simp (disch := omega) only [upR_n]
        exact d i (by omega) (by omega)
  · simp (disch := omega) only [upR_n]
    rw [a _ (by omega), a _ (by omega)]
    exact h9 k k0 k1
theorem mp_adds {t v : Int} {D M : am_M} {Q : Int → am_M → Prop} {c : Int} (hd : OKd c D) (hm : Mqr (M 70) D) (rt : am_rg t) (hn : D 1 7 < 60) (hno : ∀ i, 0 ≤ i → i < D 1 7 → D 2 i ≠ t) (hq : ∀ M', (∀ k, k ≠ 70 → M' k = M k) → Mqr (M' 70) (insD D t v) → Q (pl D t) M') : wp_X6_adds t v M Q := by
  have n1 := hd.1
  have fin : ∀ (p : Int) (M1 : am_M), 0 ≤ p → p ≤ D 1 7 → (∀ k, k ≠ 70 → M1 k = M k) → AI (M 70) (M1 70) D p → (∀ i, p ≤ i → i < D 1 7 → t < D 2 i) → (0 < p → D 2 (p - 1) < t) → wj_X6_adds_88 Q t v p M1 := by
    intro p M1 p0 p1 f ai hi lo1
    have ep : p = pl D t := pl_u p0 p1 (fun i i0 i1 => by
      by_cases z : i = p - 1
      · rw [z]; exact lo1 (by omega)
      · have := hd.2.2.1 i (p - 1) i0 (by omega) (by omega)
        have := lo1 (by omega)
        omega) (fun z => by have := hi p (Int.le_refl _) z; omega)
    have e0 : am_up (am_up (am_up M1 70 (7 + p) t) 70 (67 + p) v) 70 (127 + p) 1 70 0 = D 1 7 := by
      simp (disch := omega) only [am_up_n]
      rw [ai.1 0 (by omega)]; exact hm.1
    refine ⟨by omega, by omega, by omega, ?_⟩
    rw [e0]
    subst ep
    refine hq _ (fun k hk => by simp (disch := omega) only [am_up_r]; exact f k hk) ?_
    rw [up70, up70, up70, up70]
    exact AI_e hm n1.1 hn ai
  have loop : ∀ (r : Nat) (p : Int) (M1 : am_M), p = r → p ≤ D 1 7 → (∀ k, k ≠ 70 → M1 k = M k) → AI (M 70) (M1 70) D p → (∀ i, p ≤ i → i < D 1 7 → t < D 2 i) → wl_X6_adds_7 Q (r + 1) t v p M1 := by
    intro r
    induction r with
    | zero =>
      intro p M1 hp p1 f ai hi
      exact ⟨by unfold am_rg; omega, fun _ => fin p M1 (by omega) p1 f ai hi (fun z => by omega), fun e => absurd (by omega) e⟩
    | succ r ih =>
      intro p M1 hp p1 f ai hi
      have tk := OKd_t hd (i := p - 1) (by omega) (by omega)
      have ne := hno (p - 1) (by omega) (by omega)
      have eb := (ai.2.1 (p - 1) (by omega) (by omega)).1
      refine ⟨by unfold am_rg; omega, fun e => absurd e (by omega), fun _ => ⟨by omega, ?_⟩⟩
      rw [eb]
      refine ⟨by unfold am_rg; omega, rt, fun e => fin p M1 (by omega) p1 f ai hi (fun _ => by omega), fun e => ⟨by omega, by omega, by omega, by omega, by omega, by omega, ?_⟩⟩
      refine ih (p + (-1)) _ (by omega) (by omega) (fun k hk => by simp (disch := omega) only [am_up_r]; exact f k hk) ?_ (fun i i0 i1 => ?_)
      · rw [up70, up70, up70]
        exact AI_s hn ⟨by omega, p1⟩ ai
      · by_cases z : i = p - 1
        · rw [z]; omega
        · exact hi i (by omega) i1
  unfold wp_X6_adds
  rw [hm.1]
  exact ⟨_, loop (D 1 7).toNat (D 1 7) M (by omega) (Int.le_refl _) (fun _ _ => rfl) ⟨fun _ _ => rfl, fun i i0 i1 => hm.2.2.2.2.2.2.2.1 i i0 i1, fun i i0 i1 => by omega⟩ (fun i i0 i1 => by omega)⟩
theorem mp_add {t v : Int} {D M : am_M} {Q : Int → am_M → Prop} {c : Int} (hd : OKd c D) (hm : Mqr (M 70) D) (h2 : 0 ≤ M 69 2 ∧ M 69 2 ≤ 6) (rt : am_rg t) (rv : am_rg v)
    (x1 : ¬ ((0 ≤ t ∧ t ≤ 9999) ∧ (-999 ≤ v ∧ v ≤ 999)) → Rf M Q 1) (x2 : (0 ≤ t ∧ t ≤ 9999) ∧ (-999 ≤ v ∧ v ≤ 999) → (D 1 7 = 60 ∨ ∃ i, 0 ≤ i ∧ i < D 1 7 ∧ D 2 i = t) → Rf M Q 2)
    (hq : (0 ≤ t ∧ t ≤ 9999) ∧ (-999 ≤ v ∧ v ≤ 999) → D 1 7 < 60 → (∀ i, 0 ≤ i → i < D 1 7 → D 2 i ≠ t) → Rm M (insD D t v) Q (pl D t)) : wp_X6_add t v M Q := by
  have hm0 := Fp_hm hm
  have n1 := hd.1
  refine mp_isEntry rt rv (fun h => ⟨by unfold am_rg; omega, fun _ => ?_, fun e => absurd (by omega) e⟩) (fun h => ⟨by unfold am_rg; omega, fun e => absurd rfl e, fun _ => Rf_a (x1 h) Fq_r⟩)
  rw [hm0.1]
  refine ⟨by unfold am_rg; omega, fun e => Rf_a (x2 h (Or.inl e)) Fq_r, fun e => mp_hasTime hd hm0 rt (fun ex => ⟨by unfold am_rg; omega, fun e => absurd e (by omega), fun _ => Rf_a (x2 h (Or.inr ex)) Fq_r⟩) (fun no => ⟨by unfold am_rg; omega, fun _ => ?_, fun e => absurd rfl e⟩)⟩
  refine mp_saved' Fq_r h2 (fun M1 g1 g2 hp1 e5 => ?_)
  have hm1 : Mqr (M1 70) D := by rw [g1 70 (by omega) (by omega)]; exact hm0
  have fm := Fmu_s Fq_r g1 g2
  refine mp_adds hd hm1 rt (by omega) no (fun M2 f2 m2 => hq h (by omega) no M2 ⟨fun k a b d e => (f2 k b).trans (fm.1 k a b d e), fun j a b d => by rw [f2 69 (by omega)]; exact fm.2 j a b d⟩ (HPm_t hp1 rfl rfl rfl (by rw [f2 69 (by omega)]) (f2 71 (by omega))) m2 (by rw [f2 69 (by omega)]; exact e5))
