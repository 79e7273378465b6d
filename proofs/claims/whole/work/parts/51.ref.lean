/-! the reference's questions -/
def Fq (M M' : am_M) : Prop := (∀ k, k ≠ 69 → (k < 75 ∨ 77 < k) → M' k = M k) ∧ (∀ j, (j < 9 ∨ 12 < j) → M' 69 j = M 69 j)
theorem Fq_r {M : am_M} : Fq M M := ⟨fun _ _ _ => rfl, fun _ _ => rfl⟩
theorem Fq_t {A B C : am_M} (h : Fq A B) (g : Fq B C) : Fq A C := ⟨fun k k1 k2 => (g.1 k k1 k2).trans (h.1 k k1 k2), fun j hj => (g.2 j hj).trans (h.2 j hj)⟩
theorem Fq_u {A B : am_M} {j x : Int} (h : Fq A B) (hj : 9 ≤ j ∧ j ≤ 12) : Fq A (am_up B 69 j x) := ⟨fun k k1 k2 => by rw [am_up_r k1]; exact h.1 k k1 k2, fun i hi => by rw [am_up_n (by omega)]; exact h.2 i hi⟩
theorem Fq_w {A B : am_M} {k : Nat} {j x : Int} (h : Fq A B) (hk : 75 ≤ k ∧ k ≤ 77) : Fq A (am_up B k j x) := ⟨fun i k1 k2 => by rw [am_up_r (by omega)]; exact h.1 i k1 k2, fun i hi => by rw [am_up_r (by omega)]; exact h.2 i hi⟩
theorem Fq_m {A B D : am_M} (hm : Mqr (A 70) D) (h : Fq A B) : Mqr (B 70) D := by rw [h.1 70 (by omega) (by omega)]; exact hm
theorem mp_time {p : Int} {D M : am_M} {Q : Int → am_M → Prop} {c : Int} (hd : OKd c D) (hm : Mqr (M 70) D) (hp : 0 ≤ p ∧ p < D 1 7) (hq : Q (D 2 p) M) : wp_X6_time p M Q := by
  have n1 := hd.1.2
  refine ⟨by omega, ?_⟩
  rw [(hm.2.2.2.2.2.2.2.1 p hp.1 hp.2).1]
  exact hq
theorem mp_value {p : Int} {D M : am_M} {Q : Int → am_M → Prop} {c : Int} (hd : OKd c D) (hm : Mqr (M 70) D) (hp : 0 ≤ p ∧ p < D 1 7) (hq : Q (D 3 p) M) : wp_X6_value p M Q := by
  have n1 := hd.1.2
  refine ⟨by omega, ?_⟩
  rw [(hm.2.2.2.2.2.2.2.1 p hp.1 hp.2).2.1]
  exact hq
theorem mp_isKept {p : Int} {D M : am_M} {Q : Int → am_M → Prop} {c : Int} (hd : OKd c D) (hm : Mqr (M 70) D) (hp : 0 ≤ p ∧ p < D 1 7) (q1 : D 4 p = 1 → Q 1 M) (q0 : ¬ D 4 p = 1 → Q 0 M) : wp_X6_isKept p M Q := by
  have n1 := hd.1.2
  have hk := OKd_k hd hp.1 hp.2
  have e := (hm.2.2.2.2.2.2.2.1 p hp.1 hp.2).2.2
  unfold wp_X6_isKept
  rw [e]
  exact ⟨by omega, by unfold am_rg; omega, q0, fun z => q1 (by omega)⟩
theorem mp_in {a l h : Int} {M : am_M} {Q : Int → am_M → Prop} (ra : am_rg a) (rl : am_rg l) (rh : am_rg h) (q1 : l ≤ a ∧ a ≤ h → Q 1 M) (q0 : ¬ (l ≤ a ∧ a ≤ h) → Q 0 M) : wp_X6_in a l h M Q :=
  ⟨ra, rl, fun e => q0 (by omega), fun e => ⟨ra, rh, fun e2 => q0 (by omega), fun e2 => q1 (by omega)⟩⟩
theorem mp_isPoint {p : Int} {D M : am_M} {Q : Int → am_M → Prop} {c : Int} (hd : OKd c D) (hm : Mqr (M 70) D) (hp : am_rg p) (q1 : 0 ≤ p ∧ p < D 1 7 → Q 1 M) (q0 : ¬ (0 ≤ p ∧ p < D 1 7) → Q 0 M) : wp_X6_isPoint p M Q := by
  have n1 := hd.1
  unfold wp_X6_isPoint
  rw [hm.1]
  exact mp_in hp (by unfold am_rg; omega) (by unfold am_rg; omega) (fun z => ⟨Or.inr rfl, q1 (by omega)⟩) (fun z => ⟨Or.inl rfl, q0 (by omega)⟩)
theorem mp_keptMany {D M : am_M} {Q : Int → am_M → Prop} {c : Int} (hd : OKd c D) (hm : Mqr (M 70) D) (hq : Q (kc D (D 1 7).toNat) M) : wp_X6_keptMany M Q := by
  have n1 := hd.1
  have loop : ∀ (r k : Nat), (k : Int) + r = D 1 7 → wl_X6_keptMany_4 Q (r + 1) (kc D k) (k : Int) M := by
    intro r
    induction r with
    | zero =>
      intro k hk
      rw [wl_X6_keptMany_4, hm.1]
      refine ⟨by unfold am_rg; omega, by unfold am_rg; omega, fun _ => ?_, fun e => absurd e (by omega)⟩
      rw [show k = (D 1 7).toNat by omega]
      exact hq
    | succ r ih =>
      intro k hk
      have e := (hm.2.2.2.2.2.2.2.1 (k : Int) (by omega) (by omega)).2.2
      rw [wl_X6_keptMany_4, hm.1, e]
      exact ⟨by unfold am_rg; omega, by unfold am_rg; omega, fun e => absurd e (by omega), fun _ => ⟨by omega, ih (k + 1) (by omega)⟩⟩
  exact ⟨_, loop (D 1 7).toNat 0 (by omega)⟩
theorem st_back {D : am_M} (hs : OKs D) {p : Int} (h0 : 0 < p) (h1 : p < D 1 7) : D 5 p = D 5 (p - 1) + (if D 6 1 < D 2 p - D 2 (p - 1) then 1 else 0) := by
  have st := st_step hs (i := p - 1) (by omega) (by omega)
  rw [show p - 1 + 1 = p by omega] at st
  exact st
theorem mp_isFirst {p : Int} {D M : am_M} {Q : Int → am_M → Prop} {c : Int} (hd : OKd c D) (hs : OKs D) (hm : Mqr (M 70) D) (hp : 0 ≤ p ∧ p < D 1 7) (q1 : bs D p → Q 1 M) (q0 : ¬ bs D p → Q 0 M) : wp_X6_isFirst p M Q := by
  have n1 := hd.1
  have l1 := hd.2.2.2.2.1
  unfold bs at q1 q0
  refine ⟨by unfold am_rg; omega, fun e => q1 (Or.inl e), fun e => ?_⟩
  refine mp_time hd hm hp (mp_time hd hm ⟨by omega, by omega⟩ ?_)
  have t1 := OKd_t hd hp.1 hp.2
  have t2 := OKd_t hd (i := p - 1) (by omega) (by omega)
  have st := st_back hs (p := p) (by omega) hp.2
  rw [hm.2.2.2.2.2.1]
  refine ⟨by unfold am_rg; omega, by unfold am_rg; omega, fun z => q0 ?_, fun z => q1 ?_⟩
  · rw [if_neg (by omega)] at st; omega
  · rw [if_pos (by omega)] at st; omega
def sv (D : am_M) : Nat → Int
  | 0 => -1
  | k + 1 => D 5 (k : Int)
theorem mp_stretchOf {p : Int} {D M : am_M} {Q : Int → am_M → Prop} {c : Int} (hd : OKd c D) (hs : OKs D) (hm : Mqr (M 70) D) (hp : 0 ≤ p ∧ p < D 1 7) (hq : Q (D 5 p) M) : wp_X6_stretchOf p M Q := by
  have n1 := hd.1
  have loop : ∀ (r k : Nat), (k : Int) + r = p + 1 → wl_X6_stretchOf_4 Q (r + 1) p (sv D k) (k : Int) M := by
    intro r
    induction r with
    | zero =>
      intro k hk
      obtain ⟨m, rfl⟩ : ∃ m, k = m + 1 := ⟨k - 1, by omega⟩
      refine ⟨by unfold am_rg; omega, by unfold am_rg; omega, fun _ => ?_, fun e => absurd (by omega) e⟩
      show Q (D 5 (m : Int)) M
      rw [show (m : Int) = p by omega]
      exact hq
    | succ r ih =>
      intro k hk
      have h := ih (k + 1) (by omega)
      have e : sv D (k + 1) = D 5 (k : Int) := rfl
      rw [e] at h
      refine ⟨by unfold am_rg; omega, by unfold am_rg; omega, fun e => absurd e (by omega), fun _ => mp_isFirst hd hs hm ⟨by omega, by omega⟩ (fun b => ⟨by unfold am_rg; omega, fun e => absurd e (by omega), fun _ => ?_⟩) (fun b => ⟨by unfold am_rg; omega, fun _ => ?_, fun e => absurd rfl e⟩)⟩
      · have ev : sv D k + 1 = D 5 (k : Int) := by
          cases k with
          | zero =>
            have := st_0 hs (by omega)
            show -1 + 1 = D 5 ((0 : Nat) : Int)
            exact this.symm
          | succ m =>
            have st := st_back hs (p := ((m + 1 : Nat) : Int)) (by omega) (by omega)
            unfold bs at b
            rw [show ((m + 1 : Nat) : Int) - 1 = (m : Int) by omega] at st b
            show D 5 (m : Int) + 1 = D 5 ((m + 1 : Nat) : Int)
            split at st <;> omega
        rw [ev]
        exact h
      · have ev : sv D k + 0 = D 5 (k : Int) := by
          unfold bs at b
          cases k with
          | zero => exact absurd (Or.inl rfl) b
          | succ m =>
            rw [show ((m + 1 : Nat) : Int) - 1 = (m : Int) by omega] at b
            show D 5 (m : Int) + 0 = D 5 ((m + 1 : Nat) : Int)
            omega
        rw [ev]
        exact h
  exact ⟨_, loop (p + 1).toNat 0 (by omega)⟩
theorem mp_lastWith {p : Int} {D M : am_M} {Q : Int → am_M → Prop} {c : Int} (hd : OKd c D) (hs : OKs D) (hm : Mqr (M 70) D) (hp : 0 ≤ p ∧ p < D 1 7) (hq : ∀ l, p ≤ l → l < D 1 7 → D 5 l = D 5 p → es D l → Q l M) : wp_X6_lastWith p M Q := by
  have n1 := hd.1
  have loop : ∀ (r : Nat) (l : Int), l + 1 + r = D 1 7 → p ≤ l → D 5 l = D 5 p → wl_X6_lastWith_2 Q (r + 1) l M := by
    intro r
    induction r with
    | zero =>
      intro l hl h0 h5
      rw [wl_X6_lastWith_2, hm.1]
      exact ⟨by unfold am_rg; omega, by unfold am_rg; omega, fun _ => hq l h0 (by omega) h5 (Or.inl (by omega)), fun e => absurd (by omega) e⟩
    | succ r ih =>
      intro l hl h0 h5
      rw [wl_X6_lastWith_2, hm.1]
      refine ⟨by unfold am_rg; omega, by unfold am_rg; omega, fun e => absurd e (by omega), fun _ => mp_isFirst hd hs hm ⟨by omega, by omega⟩ (fun b => ⟨by unfold am_rg; omega, fun _ => hq l h0 (by omega) h5 ?_, fun e => absurd (by omega) e⟩) (fun b => ⟨by unfold am_rg; omega, fun e => absurd rfl e, fun _ => ih (l + 1) (by omega) (by omega) ?_⟩)⟩
      · unfold bs at b
        rw [show l + 1 - 1 = l by omega] at b
        unfold es
        omega
      · unfold bs at b
        rw [show l + 1 - 1 = l by omega] at b
        omega
  exact ⟨_, loop (D 1 7 - (p + 1)).toNat p (by omega) (Int.le_refl _) rfl⟩
theorem mp_firstOf {s : Int} {D M : am_M} {Q : Int → am_M → Prop} {c : Int} (hd : OKd c D) (hs : OKs D) (hm : Mqr (M 70) D) (h : 0 ≤ s ∧ s < cs D) (hq : Q (fo D s) M) : wp_X6_firstOf s M Q := by
  have n1 := hd.1
  have hc := cs_b hd hs
  obtain ⟨f0, f1, f2, f3, -⟩ := fo_in hd hs h
  have loop : ∀ (r : Nat) (p : Int), p + r = fo D s → 0 ≤ p → wl_X6_firstOf_4 Q (r + 1) s p (D 5 p) M := by
    intro r
    induction r with
    | zero =>
      intro p hp p0
      have ep : p = fo D s := by omega
      have sb := OKs_b hs p0 (by omega)
      refine ⟨by unfold am_rg; omega, by unfold am_rg; omega, fun _ => ?_, fun e => absurd ?_ e⟩
      · rw [ep]; exact hq
      · rw [ep]; omega
    | succ r ih =>
      intro p hp p0
      have sb := OKs_b hs p0 (by omega)
      have le := st_m hs (i := p) (j := fo D s) p0 (by omega) f1
      have ne := f3 p p0 (by omega)
      have h1 := ih (p + 1) (by omega) (by omega)
      have st := st_step hs (i := p) p0 (by omega)
      refine ⟨by unfold am_rg; omega, by unfold am_rg; omega, fun e => absurd e (by omega), fun _ => mp_isFirst hd hs hm ⟨by omega, by omega⟩ (fun b => ⟨by unfold am_rg; omega, fun e => absurd e (by omega), fun _ => ?_⟩) (fun b => ⟨by unfold am_rg; omega, fun _ => ?_, fun e => absurd rfl e⟩)⟩
      · unfold bs at b
        rw [show p + 1 - 1 = p by omega] at b
        have : D 5 (p + 1) = D 5 p + 1 := by split at st <;> omega
        rw [← this]
        exact h1
      · unfold bs at b
        rw [show p + 1 - 1 = p by omega] at b
        have : D 5 (p + 1) = D 5 p + 0 := by omega
        rw [← this]
        exact h1
  have h0 := loop (fo D s).toNat 0 (by omega) (by omega)
  rw [st_0 hs (by omega)] at h0
  exact ⟨_, h0⟩
theorem mp_stretches {D M : am_M} {Q : Int → am_M → Prop} {c : Int} (hd : OKd c D) (hs : OKs D) (hm : Mqr (M 70) D) (hq : Q (cs D) M) : wp_X6_stretches M Q := by
  have n1 := hd.1
  unfold cs at hq
  unfold wp_X6_stretches
  rw [hm.1]
  refine ⟨by unfold am_rg; omega, fun e => mp_stretchOf hd hs hm ⟨by omega, by omega⟩ ?_, fun e => ?_⟩
  · rw [if_neg e] at hq; exact hq
  · rw [if_pos (by omega)] at hq; exact hq
/-! the kept points around a time -/
def ak (D : am_M) (t : Int) : Nat → Int
  | 0 => -1
  | k + 1 => if D 4 (k : Int) = 1 ∧ D 2 (k : Int) < t then (k : Int) else ak D t k
def bh (D : am_M) (t : Int) : Nat → Int
  | 0 => -1
  | k + 1 => if D 4 (k : Int) = 1 ∧ t < D 2 (k : Int) ∧ bh D t k < 0 then (k : Int) else bh D t k
theorem ak_s (D : am_M) (t : Int) : ∀ k : Nat, (ak D t k = -1 ∧ ∀ i, 0 ≤ i → i < (k : Int) → ¬ (D 4 i = 1 ∧ D 2 i < t)) ∨ (0 ≤ ak D t k ∧ ak D t k < (k : Int) ∧ D 4 (ak D t k) = 1 ∧ D 2 (ak D t k) < t ∧ ∀ i, ak D t k < i → i < (k : Int) → ¬ (D 4 i = 1 ∧ D 2 i < t))
  | 0 => Or.inl ⟨rfl, fun i i0 i1 => by omega⟩
  | k + 1 => by
    have ih := ak_s D t k
    unfold ak
    by_cases z : D 4 (k : Int) = 1 ∧ D 2 (k : Int) < t
    · rw [if_pos z]
      exact Or.inr ⟨by omega, by omega, z.1, z.2, fun i i0 i1 => by omega⟩
    · rw [if_neg z]
      rcases ih with ⟨h1, h2⟩ | ⟨h1, h2, h3, h4, h5⟩
      · refine Or.inl ⟨h1, fun i i0 i1 => ?_⟩
        by_cases y : i = (k : Int)
        · rw [y]; exact z
        · exact h2 i i0 (by omega)
      · refine Or.inr ⟨h1, by omega, h3, h4, fun i i0 i1 => ?_⟩
        by_cases y : i = (k : Int)
        · rw [y]; exact z
        · exact h5 i i0 (by omega)
theorem bh_s (D : am_M) (t : Int) : ∀ k : Nat, (bh D t k = -1 ∧ ∀ i, 0 ≤ i → i < (k : Int) → ¬ (D 4 i = 1 ∧ t < D 2 i)) ∨ (0 ≤ bh D t k ∧ bh D t k < (k : Int) ∧ D 4 (bh D t k) = 1 ∧ t < D 2 (bh D t k) ∧ ∀ i, 0 ≤ i → i < bh D t k → ¬ (D 4 i = 1 ∧ t < D 2 i))
  | 0 => Or.inl ⟨rfl, fun i i0 i1 => by omega⟩
  | k + 1 => by
    have ih := bh_s D t k
    unfold bh
    by_cases z : D 4 (k : Int) = 1 ∧ t < D 2 (k : Int) ∧ bh D t k < 0
    · rw [if_pos z]
      refine Or.inr ⟨by omega, by omega, z.1, z.2.1, ?_⟩
      rcases ih with ⟨h1, h2⟩ | ⟨h1, h2, h3, h4, h5⟩
      · exact h2
      · omega
    · rw [if_neg z]
      rcases ih with ⟨h1, h2⟩ | ⟨h1, h2, h3, h4, h5⟩
      · refine Or.inl ⟨h1, fun i i0 i1 y => ?_⟩
        by_cases x : i = (k : Int)
        · rw [x] at y; exact z ⟨y.1, y.2, by omega⟩
        · exact h2 i i0 (by omega) y
      · exact Or.inr ⟨h1, by omega, h3, h4, h5⟩
def pb (D : am_M) (t : Int) : Int := if pl D t < D 1 7 ∧ D 2 (pl D t) = t then pl D t + 1 else pl D t
def rb (D : am_M) (t : Int) : Int := kf D (D 1 7) (D 1 7 - pb D t).toNat
theorem pl_g {c : Int} {D : am_M} (hd : OKd c D) {t i : Int} (h0 : pl D t ≤ i) (h1 : i < D 1 7) : t ≤ D 2 i := by
  have hp := pl_s (D := D) (t := t) hd.1.1
  have a := hp.2.2.2 (by omega)
  by_cases z : i = pl D t
  · rw [z]; exact a
  · have := hd.2.2.1 (pl D t) i hp.1 (by omega) h1
    omega
theorem pb_s {c : Int} {D : am_M} (hd : OKd c D) (t : Int) : (pl D t ≤ pb D t ∧ pb D t ≤ D 1 7) ∧ (∀ i, 0 ≤ i → i < pb D t → D 2 i ≤ t) ∧ (∀ i, pb D t ≤ i → i < D 1 7 → t < D 2 i) := by
  have hp := pl_s (D := D) (t := t) hd.1.1
  unfold pb
  by_cases z : pl D t < D 1 7 ∧ D 2 (pl D t) = t
  · rw [if_pos z]
    refine ⟨by omega, fun i i0 i1 => ?_, fun i i0 i1 => ?_⟩
    · by_cases y : i = pl D t
      · rw [y, z.2]; exact Int.le_refl _
      · have := hp.2.2.1 i i0 (by omega); omega
    · have := hd.2.2.1 (pl D t) i hp.1 (by omega) i1
      omega
  · rw [if_neg z]
    refine ⟨by omega, fun i i0 i1 => ?_, fun i i0 i1 => ?_⟩
    · have := hp.2.2.1 i i0 i1; omega
    · have a := pl_g hd i0 i1
      have b := pl_g hd (t := t) (i := pl D t) (Int.le_refl _) (by omega)
      by_cases y : i = pl D t
      · rw [y] at a i1 ⊢
        by_cases x : D 2 (pl D t) = t
        · exact absurd ⟨i1, x⟩ z
        · omega
      · have := hd.2.2.1 (pl D t) i hp.1 (by omega) i1
        omega
theorem ak_e {c : Int} {D : am_M} (hd : OKd c D) (t : Int) : ak D t (D 1 7).toNat = ra D t := by
  have n0 := hd.1.1
  have hp := pl_s (D := D) (t := t) n0
  have h := ak_s D t (D 1 7).toNat
  have g := kb_s D (pl D t).toNat
  have er : ra D t = kb D (pl D t).toNat := rfl
  rw [← er] at g
  rcases h with ⟨h1, h2⟩ | ⟨h1, h2, h3, h4, h5⟩
  · rcases g with ⟨g1, g2⟩ | ⟨g1, g2, g3, g4⟩
    · omega
    · exact absurd ⟨g3, hp.2.2.1 _ g1 (by omega)⟩ (h2 _ g1 (by omega))
  · have lt : ak D t (D 1 7).toNat < pl D t := by
      by_cases z : ak D t (D 1 7).toNat < pl D t
      · exact z
      · have := pl_g hd (t := t) (i := ak D t (D 1 7).toNat) (by omega) (by omega); omega
    rcases g with ⟨g1, g2⟩ | ⟨g1, g2, g3, g4⟩
    · exact absurd h3 (g2 _ h1 (by omega))
    · by_cases z : ak D t (D 1 7).toNat < ra D t
      · exact absurd ⟨g3, hp.2.2.1 _ g1 (by omega)⟩ (h5 _ z (by omega))
      · by_cases y : ra D t < ak D t (D 1 7).toNat
        · exact absurd h3 (g4 _ y (by omega))
        · omega
theorem bh_e {c : Int} {D : am_M} (hd : OKd c D) (t : Int) : bh D t (D 1 7).toNat = rb D t := by
  have n0 := hd.1.1
  have hp := pl_s (D := D) (t := t) n0
  obtain ⟨p1, p2, p3⟩ := pb_s hd t
  have h := bh_s D t (D 1 7).toNat
  have g := kf_s D (D 1 7) (D 1 7 - pb D t).toNat
  have er : rb D t = kf D (D 1 7) (D 1 7 - pb D t).toNat := rfl
  rw [← er, show D 1 7 - (((D 1 7 - pb D t).toNat : Nat) : Int) = pb D t by omega] at g
  rcases h with ⟨h1, h2⟩ | ⟨h1, h2, h3, h4, h5⟩
  · rcases g with ⟨g1, g2⟩ | ⟨g1, g2, g3, g4⟩
    · omega
    · exact absurd ⟨g3, p3 _ g1 g2⟩ (h2 _ (by omega) (by omega))
  · have lt : pb D t ≤ bh D t (D 1 7).toNat := by
      by_cases z : pb D t ≤ bh D t (D 1 7).toNat
      · exact z
      · have := p2 _ h1 (by omega); omega
    rcases g with ⟨g1, g2⟩ | ⟨g1, g2, g3, g4⟩
    · exact absurd h3 (g2 _ lt (by omega))
    · by_cases z : rb D t < bh D t (D 1 7).toNat
      · exact absurd ⟨g3, p3 _ g1 g2⟩ (h5 _ (by omega) z)
      · by_cases y : bh D t (D 1 7).toNat < rb D t
        · exact absurd h3 (g4 _ lt y)
        · omega
theorem mp_around {t : Int} {D M : am_M} {Q : am_M → Prop} {c : Int} (hd : OKd c D) (hm : Mqr (M 70) D) (ht : am_rg t) (hq : ∀ M', Fq M M' → M' 69 9 = ra D t → M' 69 10 = rb D t → Q M') : wp_X6_around t M Q := by
  have n1 := hd.1
  have loop : ∀ (r k : Nat) (M1 : am_M), (k : Int) + r = D 1 7 → Fq M M1 → M1 69 9 = ak D t k → M1 69 10 = bh D t k → wl_X6_around_12 Q (r + 1) t (k : Int) M1 := by
    intro r
    induction r with
    | zero =>
      intro k M1 hk f a b
      have hm1 := Fq_m hm f
      rw [wl_X6_around_12, hm1.1]
      refine ⟨by unfold am_rg; omega, by unfold am_rg; omega, fun _ => hq M1 f ?_ ?_, fun e => absurd e (by omega)⟩
      · rw [a, show k = (D 1 7).toNat by omega]; exact ak_e hd t
      · rw [b, show k = (D 1 7).toNat by omega]; exact bh_e hd t
    | succ r ih =>
      intro k M1 hk f a b
      have hm1 := Fq_m hm f
      have hp : 0 ≤ (k : Int) ∧ (k : Int) < D 1 7 := ⟨by omega, by omega⟩
      have tk := OKd_t hd hp.1 hp.2
      have bb := bh_s D t k
      have ea : ak D t (k + 1) = if D 4 (k : Int) = 1 ∧ D 2 (k : Int) < t then (k : Int) else ak D t k := rfl
      have eb : bh D t (k + 1) = if D 4 (k : Int) = 1 ∧ t < D 2 (k : Int) ∧ bh D t k < 0 then (k : Int) else bh D t k := rfl
      have J : ∀ s0, s0 = ak D t (k + 1) → wj_X6_around_48 Q (wl_X6_around_12 Q (r + 1)) t (k : Int) s0 M1 := by
        intro s0 hs0
        have f2 : Fq M (am_up M1 69 9 s0) := Fq_u f (by omega)
        have hm2 := Fq_m hm f2
        have b2 : am_up M1 69 9 s0 69 10 = bh D t k := by rw [am_up_n (by omega)]; exact b
        have a2 : am_up M1 69 9 s0 69 9 = ak D t (k + 1) := by rw [am_up_s]; exact hs0
        have same : bh D t (k + 1) = bh D t k → wl_X6_around_12 Q (r + 1) t ((k : Int) + 1) (am_up (am_up M1 69 9 s0) 69 10 (am_up M1 69 9 s0 69 10)) := by
          intro e
          refine ih (k + 1) _ (by omega) (Fq_u f2 (by omega)) (by rw [am_up_n (by omega)]; exact a2) (by rw [am_up_s, b2, e])
        refine mp_isKept hd hm2 hp (fun y => ⟨by unfold am_rg; omega, fun e => absurd e (by omega), fun _ => mp_time hd hm2 hp ⟨by unfold am_rg; omega, ht, fun e => same ?_, fun e => ?_⟩⟩) (fun y => ⟨by unfold am_rg; omega, fun _ => same ?_, fun e => absurd rfl e⟩)
        · rw [eb, if_neg (by omega)]
        · rw [b2]
          refine ⟨by unfold am_rg; omega, fun e2 => ?_, fun e2 => ?_⟩
          · have := same (by rw [eb, if_neg (by omega)])
            rw [b2] at this
            exact this
          · refine ih (k + 1) _ (by omega) (Fq_u f2 (by omega)) (by rw [am_up_n (by omega)]; exact a2) ?_
            rw [am_up_s, eb, if_pos ⟨y, by omega, by omega⟩]
        · rw [eb, if_neg (fun z => y z.1)]
      rw [wl_X6_around_12, hm1.1]
      refine ⟨by unfold am_rg; omega, by unfold am_rg; omega, fun e => absurd e (by omega), fun _ => ?_⟩
      refine mp_isKept hd hm1 hp (fun y => ⟨by unfold am_rg; omega, fun e => absurd e (by omega), fun _ => mp_time hd hm1 hp ⟨by unfold am_rg; omega, ht, fun e => J _ ?_, fun e => J _ ?_⟩⟩) (fun y => ⟨by unfold am_rg; omega, fun _ => J _ ?_, fun e => absurd rfl e⟩)
      · rw [ea, if_neg (by omega)]; exact a
      · rw [ea, if_pos ⟨y, by omega⟩]
      · rw [ea, if_neg (fun z => y z.1)]; exact a
  exact ⟨_, loop (D 1 7).toNat 0 _ (by omega) (Fq_u (Fq_u Fq_r (by omega)) (by omega)) (by rw [am_up_n (by omega), am_up_s]; rfl) (by rw [am_up_s]; rfl)⟩
theorem pl_p {c : Int} {D : am_M} (hd : OKd c D) {p : Int} (hp : 0 ≤ p ∧ p < D 1 7) : pl D (D 2 p) = p :=
  (pl_u hp.1 (by omega) (fun i i0 i1 => hd.2.2.1 i p i0 i1 hp.2) (fun _ => Int.le_refl _)).symm
theorem ra_p {c : Int} {D : am_M} (hd : OKd c D) {p : Int} (hp : 0 ≤ p ∧ p < D 1 7) : ra D (D 2 p) = kb D p.toNat := by unfold ra; rw [pl_p hd hp]
theorem pb_p {c : Int} {D : am_M} (hd : OKd c D) {p : Int} (hp : 0 ≤ p ∧ p < D 1 7) : pb D (D 2 p) = p + 1 := by unfold pb; rw [pl_p hd hp, if_pos ⟨hp.2, rfl⟩]
theorem rb_p {c : Int} {D : am_M} (hd : OKd c D) {p : Int} (hp : 0 ≤ p ∧ p < D 1 7) : rb D (D 2 p) = kf D (D 1 7) (D 1 7 - (p + 1)).toNat := by unfold rb; rw [pb_p hd hp]
theorem mp_neighbors {p : Int} {D M : am_M} {Q : am_M → Prop} {c : Int} (hd : OKd c D) (hs : OKs D) (hm : Mqr (M 70) D) (hp : 0 ≤ p ∧ p < D 1 7) (hq : ∀ M', Fq M M' → M' 69 9 = ek D p → M' 69 10 = lk D p → Q M') : wp_X6_neighbors p M Q := by
  have n1 := hd.1
  have tp := OKd_t hd hp.1 hp.2
  have sp := OKs_b hs hp.1 hp.2
  refine mp_time hd hm hp (mp_around hd hm (by unfold am_rg; omega) (fun M1 f1 a1 b1 => ?_))
  rw [ra_p hd hp] at a1
  rw [rb_p hd hp] at b1
  have g1 := kb_s D p.toNat
  have g2 := kf_s D (D 1 7) (D 1 7 - (p + 1)).toNat
  have e1 : ek D p = if kb D p.toNat ≠ -1 ∧ D 5 (kb D p.toNat) = D 5 p then kb D p.toNat else -1 := rfl
  have e2 : lk D p = if kf D (D 1 7) (D 1 7 - (p + 1)).toNat ≠ -1 ∧ D 5 p = D 5 (kf D (D 1 7) (D 1 7 - (p + 1)).toNat) then kf D (D 1 7) (D 1 7 - (p + 1)).toNat else -1 := rfl
  have J : ∀ s0, s0 = ek D p → wj_X6_neighbors_41 Q p s0 M1 := by
    intro s0 hs0
    have f2 : Fq M (am_up M1 69 9 s0) := Fq_u f1 (by omega)
    have hm2 := Fq_m hm f2
    have b2 : am_up M1 69 9 s0 69 10 = kf D (D 1 7) (D 1 7 - (p + 1)).toNat := by rw [am_up_n (by omega)]; exact b1
    unfold wj_X6_neighbors_41
    rw [b2]
    refine ⟨by unfold am_rg; omega, fun e => hq _ (Fq_u f2 (by omega)) (by rw [am_up_n (by omega), am_up_s]; exact hs0) ?_, fun e => ?_⟩
    · rw [am_up_s, e2, if_neg (by omega)]
    · have sb := OKs_b hs (i := kf D (D 1 7) (D 1 7 - (p + 1)).toNat) (by omega) (by omega)
      refine mp_stretchOf hd hs hm2 ⟨by omega, by omega⟩ (mp_stretchOf hd hs hm2 hp ⟨by unfold am_rg; omega, by unfold am_rg; omega, fun z => hq _ (Fq_u f2 (by omega)) (by rw [am_up_n (by omega), am_up_s]; exact hs0) ?_, fun z => hq _ (Fq_u f2 (by omega)) (by rw [am_up_n (by omega), am_up_s]; exact hs0) ?_⟩)
      · rw [am_up_s, e2, if_neg (fun y => z y.2.symm)]
      · rw [am_up_s, b2, e2, if_pos ⟨by omega, by omega⟩]
  have hm1 := Fq_m hm f1
  rw [a1]
  refine ⟨by unfold am_rg; omega, fun e => J _ ?_, fun e => ?_⟩
  · rw [e1, if_neg (by omega)]
  · have sb := OKs_b hs (i := kb D p.toNat) (by omega) (by omega)
    refine mp_stretchOf hd hs hm1 ⟨by omega, by omega⟩ (mp_stretchOf hd hs hm1 hp ⟨by unfold am_rg; omega, by unfold am_rg; omega, fun z => J _ ?_, fun z => J _ ?_⟩)
    · rw [e1, if_neg (fun y => z y.2)]
    · rw [a1, e1, if_pos ⟨by omega, by omega⟩]
