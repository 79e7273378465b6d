/-! the relation that every call keeps -/
def HS (c : Int) (M : am_M) : Prop := ∀ s, 0 ≤ s → s < M 14 2 → OKd c (dia M (rwo M s)) ∧ Mqr (fun k => M 71 (203 * s + k)) (dia M (rwo M s))
def Rel (c : Int) (M : am_M) : Prop := Cp c M ∧ Mqr (M 70) M ∧ M 69 2 = M 14 2 ∧ HS c M ∧ TX (M 65) (M 64 1) M ∧ LH M
/-- only scratch -/
def Nc (M M' : am_M) : Prop := (∀ k, (k < 9 ∨ (13 < k ∧ k < 64) ∨ k = 65 ∨ (69 < k ∧ k < 75)) → M' k = M k) ∧ M' 64 1 = M 64 1 ∧ NV M M' ∧ M' 69 2 = M 69 2 ∧ M' 69 4 = M 69 4
theorem rwo_fr {M M' : am_M} (e : M' 14 = M 14) (s : Int) : rwo M' s = rwo M s := by unfold rwo; rw [e]
theorem rwo_b (M : am_M) (s : Int) : 16 ≤ rwo M s ∧ rwo M s ≤ 56 := by unfold rwo; omega
theorem HS_n {c : Int} {M M' : am_M} (h : HS c M) (e : ∀ k, (13 < k ∧ k < 64) → M' k = M k) (e71 : M' 71 = M 71) : HS c M' := by
  intro s s0 s1
  rw [e 14 (by omega)] at s1
  obtain ⟨a, b⟩ := h s s0 s1
  have r := rwo_b M s
  have hf : Fr8 (dia M (rwo M s)) (dia M' (rwo M s)) := fun k k1 k2 => by
    unfold dia
    exact e _ (by omega)
  rw [rwo_fr (e 14 (by omega)), e71]
  exact ⟨OKd_fr a hf, Mqr_n b (EQn_fr hf)⟩
theorem Rel_n {c : Int} {M M' : am_M} (h : Rel c M) (n : Nc M M') : Rel c M' := by
  obtain ⟨⟨hd, hs, hN, r1, r2, ht⟩, hm, e2, hH, hT, hL⟩ := h
  obtain ⟨f, f64, fN, f2, f4⟩ := n
  have F : Fr8 M M' := fun k k1 k2 => f k (by omega)
  have e14 : M' 14 = M 14 := f 14 (by omega)
  refine ⟨⟨OKd_fr hd F, OKs_fr hs F, NV_sm fN (Sm_fr F), by rw [e14]; exact r1, by rw [e14]; exact r2, ?_⟩, ?_, by rw [f2, e14]; exact e2, HS_n hH (fun k hk => f k (by omega)) (f 71 (by omega)), ?_, ?_⟩
  · unfold OKt at ht ⊢
    rw [f64, f 65 (by omega)]; exact ht
  · rw [f 70 (by omega)]; exact Mqr_n hm (EQn_fr F)
  · unfold TX at hT ⊢
    rw [f4, f64, f 65 (by omega), f 72 (by omega)]; exact hT
  · unfold LH at hL ⊢
    rw [f 73 (by omega), f 74 (by omega)]; exact hL
theorem Rel_c {c c' : Int} {M : am_M} (h : Rel c M) (h1 : c ≤ c') (h2 : c' ≤ 1000) : Rel c' M := by
  obtain ⟨⟨hd, hs, hN, r1, r2, ht⟩, hm, e2, hH, hT, hL⟩ := h
  exact ⟨⟨OKd_c hd h1 h2, hs, hN, r1, r2, ht⟩, hm, e2, fun s s0 s1 => ⟨OKd_c (hH s s0 s1).1 h1 h2, (hH s s0 s1).2⟩, hT, hL⟩
/-- a refusal on both sides -/
theorem Nc_x {M M1 M' : am_M} (h : Ask M M M1) (f : Fp M1 M') : Nc M M' := by
  refine ⟨fun k hk => by rw [f.1 k (by omega) (by omega)]; exact h.1 k (by omega), by rw [f.1 64 (by omega) (by omega), h.1 64 (by omega)], NV_m h.2 (f.1 10 (by omega) (by omega)) (f.1 13 (by omega) (by omega)), ?_, ?_⟩
  · rw [f.2 2 (by omega) (by omega), h.1 69 (by omega)]
  · rw [f.2 4 (by omega) (by omega), h.1 69 (by omega)]
theorem Nc_a {M M1 M2 M' : am_M} (h : Ask M M M1) (e : ∀ k, k ≠ 80 → M2 k = M1 k) (f : Fp M2 M') : Nc M M' := by
  refine ⟨fun k hk => by rw [f.1 k (by omega) (by omega), e k (by omega)]; exact h.1 k (by omega), by rw [f.1 64 (by omega) (by omega), e 64 (by omega), h.1 64 (by omega)], NV_m h.2 (by rw [f.1 10 (by omega) (by omega), e 10 (by omega)]) (by rw [f.1 13 (by omega) (by omega), e 13 (by omega)]), ?_, ?_⟩
  · rw [f.2 2 (by omega) (by omega), e 69 (by omega), h.1 69 (by omega)]
  · rw [f.2 4 (by omega) (by omega), e 69 (by omega), h.1 69 (by omega)]
theorem Mqr_d {q : Int → Int} {A B : am_M} (h : Mqr q A) (f : Fr8 A B) : Mqr q B := Mqr_n h (EQn_fr f)
/-- the histories keep step -/
theorem HS_m {c : Int} {M M' : am_M} (hd : OKd c M) (hm : Mqr (M 70) M) (e2 : M 69 2 = M 14 2) (h2 : 0 ≤ M 14 2 ∧ M 14 2 ≤ 6) (h : HS c M) (a : HPc M M') (b : HPm M M') : M' 69 2 = M' 14 2 ∧ (0 ≤ M' 14 1 ∧ M' 14 1 < 6) ∧ (0 ≤ M' 14 2 ∧ M' 14 2 ≤ 6) ∧ HS c M' := by
  obtain ⟨a1, a2, a3, a4⟩ := a
  obtain ⟨b1, b2, b3⟩ := b
  have d7 := hd.1
  have d8 := hd.2.2.2.2.2.2.1
  have e : M' 69 2 = M' 14 2 := by rw [b1, a2, e2]
  have rng : 0 ≤ M' 14 2 ∧ M' 14 2 ≤ 6 := by rw [a2]; split <;> omega
  refine ⟨e, a1, rng, fun s s0 s1 => ?_⟩
  by_cases z : s = M' 14 2 - 1
  · rw [z]
    refine ⟨OKd_eq hd (EQD_s a3), ?_⟩
    refine Mqr_eq (Mqr_cg hm d7.2 d8.2 (fun k k0 k1 => ?_)) (EQD_s a3) d7.2 d8.2
    have := b2 k k0 k1
    rw [e] at this
    exact this
  · have s2 : s < M' 14 2 - 1 := by omega
    have ed : (if M 69 2 = 6 then (1 : Int) else 0) = (if M 14 2 = 6 then 1 else 0) := by rw [e2]
    have hs2 : s + (if M 14 2 = 6 then 1 else 0) < M 14 2 := by
      rw [a2] at s2
      split at s2 <;> split <;> omega
    obtain ⟨x, y⟩ := h (s + (if M 14 2 = 6 then 1 else 0)) (by split <;> omega) hs2
    have hf : Fr8 (dia M (rwo M (s + (if M 14 2 = 6 then 1 else 0)))) (dia M' (rwo M' s)) := fun k k1 k2 => a4 s s0 s2 k k1 k2
    have x7 := x.1
    have x8 := x.2.2.2.2.2.2.1
    refine ⟨OKd_fr x hf, Mqr_d (Mqr_cg y x7.2 x8.2 (fun k k0 k1 => ?_)) hf⟩
    have := b3 s k s0 (by rw [e]; exact s2) k0 k1
    rw [ed] at this
    exact this
theorem Rel_m {c : Int} {M M1 M2 M' D' : am_M} (h : Rel c M) (hc : c + 1 ≤ 1000) (m : Mut c M M1 D') (e : ∀ k, k ≠ 80 → M2 k = M1 k) (f : Fmu M2 M') (hp : HPm M2 M') (hq : Mqr (M' 70) D') : Rel (c + 1) M' := by
  obtain ⟨⟨hd, hs, hN, r1, r2, ht⟩, hm, e2, hH, hT, hL⟩ := h
  obtain ⟨m1, m2, m3, m4, m5, m6⟩ := m
  have g : ∀ k, k ≠ 69 → k ≠ 70 → k ≠ 71 → (k < 75 ∨ 77 < k) → k ≠ 80 → M' k = M1 k := fun k a b d x y => (f.1 k a b d x).trans (e k y)
  have F : Fr8 M1 M' := fun k k1 k2 => g k (by omega) (by omega) (by omega) (by omega) (by omega)
  have hpm : HPm M M' := HPm_t hp (by rw [e 69 (by omega), m1 69 (by omega) (by omega)]) (by rw [e 70 (by omega), m1 70 (by omega) (by omega)]) (by rw [e 71 (by omega), m1 71 (by omega) (by omega)]) rfl rfl
  have hpc : HPc M M' := HPc_t (fun _ _ => rfl) (fun k k1 k2 => g k (by omega) (by omega) (by omega) (by omega) (by omega)) m2
  obtain ⟨y1, y2, y3, y4⟩ := HS_m hd hm e2 r2 hH hpc hpm
  have e64 : M' 64 = M 64 := by rw [g 64 (by omega) (by omega) (by omega) (by omega) (by omega), m1 64 (by omega) (by omega)]
  have e65 : M' 65 = M 65 := by rw [g 65 (by omega) (by omega) (by omega) (by omega) (by omega), m1 65 (by omega) (by omega)]
  have e72 : M' 72 = M 72 := by rw [g 72 (by omega) (by omega) (by omega) (by omega) (by omega), m1 72 (by omega) (by omega)]
  have e73 : M' 73 = M 73 := by rw [g 73 (by omega) (by omega) (by omega) (by omega) (by omega), m1 73 (by omega) (by omega)]
  have e74 : M' 74 = M 74 := by rw [g 74 (by omega) (by omega) (by omega) (by omega) (by omega), m1 74 (by omega) (by omega)]
  have e4 : M' 69 4 = M 69 4 := by rw [f.2 4 (by omega) (by omega) (by omega), e 69 (by omega), m1 69 (by omega) (by omega)]
  refine ⟨⟨OKd_fr m4 F, OKs_fr m5 F, NV_sm (NV_m m6 ?_ ?_) (Sm_fr F), y2, y3, ?_⟩, Mqr_n hq ?_, y1, fun s s0 s1 => ⟨OKd_c (y4 s s0 s1).1 (by omega) hc, (y4 s s0 s1).2⟩, ?_, ?_⟩
  · exact g 10 (by omega) (by omega) (by omega) (by omega) (by omega)
  · exact g 13 (by omega) (by omega) (by omega) (by omega) (by omega)
  · unfold OKt at ht ⊢
    rw [e64, e65]; exact ht
  · have := EQn_fr F
    unfold EQn at this m3 ⊢
    obtain ⟨a1, a2, a3, a4, a5, a6, a7⟩ := this
    obtain ⟨b1, b2, b3, b4, b5, b6, b7⟩ := m3
    refine ⟨a1.trans b1, a2.trans b2, a3.trans b3, a4.trans b4, fun i i0 i1 => ?_, fun i i0 i1 => (a6 i i0 i1).trans (b6 i i0 i1), fun k k0 k1 => ?_⟩
    · obtain ⟨x1, x2, x3⟩ := a5 i i0 (by omega)
      obtain ⟨z1, z2, z3⟩ := b5 i i0 i1
      exact ⟨x1.trans z1, x2.trans z2, x3.trans z3⟩
    · obtain ⟨x1, x2⟩ := a7 k k0 (by omega)
      obtain ⟨z1, z2⟩ := b7 k k0 k1
      exact ⟨x1.trans z1, x2.trans z2⟩
  · unfold TX at hT ⊢
    rw [e4, e64, e65, e72]; exact hT
  · unfold LH at hL ⊢
    rw [e73, e74]; exact hL
/-! the calls, side by side -/
def HK (c : Int) (K : Int → Int → am_M → Prop) : Prop := ∀ x y M', Rel c M' → M' 69 5 = x → (x = 0 ∨ x = 1 ∨ x = 2) → (x = 0 → M' 80 0 = y ∧ am_rg y) → K x y M'
theorem HK_x {c e : Int} {K : Int → Int → am_M → Prop} {M M1 : am_M} (hK : HK c K) (h : Rel c M) (a : Ask M M M1) (he : e = 1 ∨ e = 2) : Rf M1 (K e) e := fun M' f z => hK e 0 M' (Rel_n h (Nc_x a f)) z (by omega) (fun w => by omega)
theorem HK_a {c y : Int} {K : Int → Int → am_M → Prop} {M M1 : am_M} (hK : HK c K) (h : Rel c M) (a : Ask M M M1) (hy : am_rg y) : Ra (am_up M1 80 0 y) (K 0) y := fun M' f z => hK 0 y M' (Rel_n h (Nc_a a (fun k hk => am_up_r hk) f)) z (Or.inl rfl) (fun _ => ⟨by rw [f.1 80 (by omega) (by omega), am_up_s], hy⟩)
theorem Mq_a {M M1 : am_M} {x : Int} (hm : Mqr (M 70) M) (a : Ask M M M1) : Mqr (am_up M1 80 0 x 70) M := by rw [am_up_r (by omega), a.1 70 (by omega)]; exact hm
theorem lw_point {a b c : Int} {M : am_M} {K : Int → Int → am_M → Prop} {QL : Int → am_M → Prop} (h : Rel c M) (ra' : am_rg a) (rb' : am_rg b) (hQ : ∀ x M1, wp_X6_point a b M1 (K x) → QL x M1) (hK : HK c K) : wp_L_point a b M QL := by
  have h' := h
  obtain ⟨⟨hd, hs, hN, r1, r2, ht⟩, hm, -⟩ := h'
  exact dp_point hd hs Fr8_r hN ra' rb' (fun z => Or.inl ⟨rfl, hQ 1 M (mp_point hd hs hm ra' rb' (fun _ => HK_x hK h (Ask_r hN) (Or.inl rfl)) (fun y _ => absurd y z) (fun y _ => absurd y z))⟩) (fun z w => Or.inr ⟨rfl, hQ 2 M (mp_point hd hs hm ra' rb' (fun y => absurd z y) (fun _ _ => HK_x hK h (Ask_r hN) (Or.inr rfl)) (fun _ y => absurd y w))⟩) (fun z w M1 f => ⟨pq_b hd hs z, hQ 0 _ (mp_point hd hs (Mq_a hm f) ra' rb' (fun y => absurd z y) (fun _ y => absurd w y) (fun _ _ => HK_a hK h f (pq_b hd hs z)))⟩)
theorem lw_error {a b c : Int} {M : am_M} {K : Int → Int → am_M → Prop} {QL : Int → am_M → Prop} (h : Rel c M) (ra' : am_rg a) (rb' : am_rg b) (hQ : ∀ x M1, wp_X6_error a b M1 (K x) → QL x M1) (hK : HK c K) : wp_L_error a b M QL := by
  have h' := h
  obtain ⟨⟨hd, hs, hN, r1, r2, ht⟩, hm, -⟩ := h'
  exact dp_error hd hs Fr8_r hN ra' rb' (fun z => Or.inl ⟨rfl, hQ 1 M (mp_error hd hs hm ra' rb' (fun _ => HK_x hK h (Ask_r hN) (Or.inl rfl)) (fun y _ => absurd y z) (fun y _ => absurd y z))⟩) (fun z w => Or.inr ⟨rfl, hQ 2 M (mp_error hd hs hm ra' rb' (fun y => absurd z y) (fun _ _ => HK_x hK h (Ask_r hN) (Or.inr rfl)) (fun _ y => absurd y w))⟩) (fun z w M1 f => ⟨eqq_b hd z, hQ 0 _ (mp_error hd hs (Mq_a hm f) ra' rb' (fun y => absurd z y) (fun _ y => absurd w y) (fun _ _ => HK_a hK h f (eqq_b hd z)))⟩)
theorem rqq_b {c : Int} {D : am_M} (hd : OKd c D) {t w : Int} (ht : 0 ≤ t ∧ t ≤ 9999) : am_rg (rqq D t w) := by
  have hb := rd_b hd ht
  unfold rqq am_rg
  by_cases z : rdb D t = 0
  · rw [if_pos z]; omega
  · rw [if_neg z]
    obtain ⟨g1, g2, g3, g4, g5⟩ := gd_x (x := rdt D t) (y := rdb D t) (by omega)
    split <;> omega
theorem lw_reading {a b c : Int} {M : am_M} {K : Int → Int → am_M → Prop} {QL : Int → am_M → Prop} (h : Rel c M) (ra' : am_rg a) (rb' : am_rg b) (hQ : ∀ x M1, wp_X6_reading a b M1 (K x) → QL x M1) (hK : HK c K) : wp_L_reading a b M QL := by
  have h' := h
  obtain ⟨⟨hd, hs, hN, r1, r2, ht⟩, hm, -⟩ := h'
  exact dp_reading hd hs Fr8_r hN ra' rb' (fun z => ⟨rfl, hQ 1 M (mp_reading hd hs hm ra' rb' (fun _ => HK_x hK h (Ask_r hN) (Or.inl rfl)) (fun y w => absurd ⟨y, w⟩ z))⟩) (fun z w M1 f => ⟨rqq_b hd z, hQ 0 _ (mp_reading hd hs (Mq_a hm f) ra' rb' (fun y => absurd ⟨z, w⟩ y) (fun _ _ => HK_a hK h f (rqq_b hd z)))⟩)
theorem lw_stretch {a b c : Int} {M : am_M} {K : Int → Int → am_M → Prop} {QL : Int → am_M → Prop} (h : Rel c M) (ra' : am_rg a) (rb' : am_rg b) (hQ : ∀ x M1, wp_X6_stretch a b M1 (K x) → QL x M1) (hK : HK c K) : wp_L_stretch a b M QL := by
  have h' := h
  obtain ⟨⟨hd, hs, hN, r1, r2, ht⟩, hm, -⟩ := h'
  exact dp_stretch hd hs Fr8_r hN ra' rb' (fun z => ⟨rfl, hQ 1 M (mp_stretch hd hs hm ra' rb' (fun _ => HK_x hK h (Ask_r hN) (Or.inl rfl)) (fun y _ => absurd y z) (fun y _ => absurd y z))⟩ |> Or.inl) (fun z w => Or.inr ⟨rfl, hQ 2 M (mp_stretch hd hs hm ra' rb' (fun y => absurd z y) (fun _ _ => HK_x hK h (Ask_r hN) (Or.inr rfl)) (fun _ y => absurd y w))⟩) (fun z w M1 f => ⟨sq_b hd, hQ 0 _ (mp_stretch hd hs (Mq_a hm f) ra' rb' (fun y => absurd z y) (fun _ y => absurd w y) (fun _ _ => HK_a hK h f (sq_b hd)))⟩)
theorem lw_noteAt {a b c : Int} {M : am_M} {K : Int → Int → am_M → Prop} {QL : Int → am_M → Prop} (h : Rel c M) (ra' : am_rg a) (rb' : am_rg b) (hQ : ∀ x M1, wp_X6_noteAt a b M1 (K x) → QL x M1) (hK : HK c K) : wp_L_noteAt a b M QL := by
  have h' := h
  obtain ⟨⟨hd, hs, hN, r1, r2, ht⟩, hm, -⟩ := h'
  exact dp_noteAt hd hs Fr8_r hN ra' rb' (fun z => Or.inl ⟨rfl, hQ 1 M (mp_noteAt hd hs hm ra' rb' (fun _ => HK_x hK h (Ask_r hN) (Or.inl rfl)) (fun y _ => absurd y z) (fun y _ => absurd y z))⟩) (fun z w => Or.inr ⟨rfl, hQ 2 M (mp_noteAt hd hs hm ra' rb' (fun y => absurd z y) (fun _ _ => HK_x hK h (Ask_r hN) (Or.inr rfl)) (fun _ y => absurd y w))⟩) (fun z w M1 f => ⟨nq_b hd z, hQ 0 _ (mp_noteAt hd hs (Mq_a hm f) ra' rb' (fun y => absurd z y) (fun _ y => absurd w y) (fun _ _ => HK_a hK h f (nq_b hd z)))⟩)
theorem lw_count {a c : Int} {M : am_M} {K : Int → Int → am_M → Prop} {QL : Int → am_M → Prop} (h : Rel c M) (ra' : am_rg a) (hQ : ∀ x M1, wp_X6_count a M1 (K x) → QL x M1) (hK : HK c K) : wp_L_count a M QL := by
  have h' := h
  obtain ⟨⟨hd, hs, hN, r1, r2, ht⟩, hm, e2, -⟩ := h'
  have rh : am_rg (M 14 2) := by unfold am_rg; omega
  refine dp_count hd hs Fr8_r hN ra' (fun z => ⟨rfl, hQ 1 M (mp_count hd hs hm ra' (fun _ => HK_x hK h (Ask_r hN) (Or.inl rfl)) (fun y => absurd y z))⟩) (fun z M1 f => ⟨cq_b hd hs rh, hQ 0 _ (mp_count hd hs (Mq_a hm f) ra' (fun y => absurd z y) (fun _ => ?_))⟩)
  have e : am_up M1 80 0 (cq M (M 14 2) a) 69 2 = M 14 2 := by rw [am_up_r (by omega), f.1 69 (by omega)]; exact e2
  rw [e]
  exact HK_a hK h f (cq_b hd hs rh)
theorem lw_setting {a c : Int} {M : am_M} {K : Int → Int → am_M → Prop} {QL : Int → am_M → Prop} (h : Rel c M) (ra' : am_rg a) (hQ : ∀ x M1, wp_X6_setting a M1 (K x) → QL x M1) (hK : HK c K) : wp_L_setting a M QL := by
  have h' := h
  obtain ⟨⟨hd, hs, hN, r1, r2, ht⟩, hm, -⟩ := h'
  have rg6 : 0 ≤ a ∧ a < 3 → am_rg (M 6 a) := fun z => by
    have h4 := hd.2.2.2.1
    have h5 := hd.2.2.2.2.1
    have h6 := hd.2.2.2.2.2.1
    have : a = 0 ∨ a = 1 ∨ a = 2 := by omega
    unfold am_rg
    rcases this with y | y | y <;> subst y <;> omega
  exact dp_setting Fr8_r ra' (fun z => ⟨rg6 z, hQ 0 _ (mp_setting (Mq_a hm (Ask_r hN)) ra' (fun y => absurd z y) (fun _ => HK_a hK h (Ask_r hN) (rg6 z)))⟩) (fun z => ⟨rfl, hQ 1 M (mp_setting hm ra' (fun _ => HK_x hK h (Ask_r hN) (Or.inl rfl)) (fun y => absurd y z))⟩)
theorem lw_whyNot {a c : Int} {M : am_M} {K : Int → Int → am_M → Prop} {QL : Int → am_M → Prop} (h : Rel c M) (ra' : am_rg a) (hQ : ∀ x M1, wp_X6_whyNot a M1 (K x) → QL x M1) (hK : HK c K) : wp_L_whyNot a M QL := by
  have h' := h
  obtain ⟨⟨hd, hs, hN, r1, r2, ht⟩, hm, -⟩ := h'
  have rr : ∀ p, am_rg (rk M p) := fun p => by have := rk_b M p; unfold am_rg; omega
  exact dp_whyNot hd hs Fr8_r hN ra' (fun z => ⟨rfl, hQ 1 M (mp_whyNot hd hs hm ra' (fun _ => HK_x hK h (Ask_r hN) (Or.inl rfl)) (fun y => absurd y z))⟩) (fun z M1 f => ⟨rr a, hQ 0 _ (mp_whyNot hd hs (Mq_a hm f) ra' (fun y => absurd z y) (fun _ => HK_a hK h f (rr a)))⟩)
theorem jq_b {c : Int} {D : am_M} (hd : OKd c D) {a b : Int} (h0 : 0 ≤ a) (h1 : a < b) (h2 : b < D 1 7) : am_rg (jq D a b) := by
  have n1 := hd.1
  have h := wno_b D a b (D 6 0) (b - a - 1).toNat
  have e : wn D a b (b - a - 1).toNat = wno D a b (D 6 0) (b - a - 1).toNat := rfl
  unfold jq am_rg
  rw [e]
  split <;> omega
theorem lw_join {a b c : Int} {M : am_M} {K : Int → Int → am_M → Prop} {QL : Int → am_M → Prop} (h : Rel c M) (ra' : am_rg a) (rb' : am_rg b) (hQ : ∀ x M1, wp_X6_join a b M1 (K x) → QL x M1) (hK : HK c K) : wp_L_join a b M QL := by
  have h' := h
  obtain ⟨⟨hd, hs, hN, r1, r2, ht⟩, hm, -⟩ := h'
  exact dp_join hd hs Fr8_r hN ra' rb' (fun z => Or.inl ⟨rfl, hQ 1 M (mp_join hd hs hm ra' rb' (fun _ => HK_x hK h (Ask_r hN) (Or.inl rfl)) (fun y _ => absurd y z) (fun y1 y2 y3 => absurd ⟨⟨y1, by omega⟩, ⟨by omega, y3⟩⟩ z))⟩) (fun z w => Or.inr ⟨rfl, hQ 2 M (mp_join hd hs hm ra' rb' (fun y => absurd z y) (fun _ _ => HK_x hK h (Ask_r hN) (Or.inr rfl)) (fun _ y _ => absurd y (by omega)))⟩) (fun z1 z2 z3 M1 f => ⟨jq_b hd z1 z2 z3, hQ 0 _ (mp_join hd hs (Mq_a hm f) ra' rb' (fun y => absurd ⟨⟨z1, by omega⟩, ⟨by omega, z3⟩⟩ y) (fun _ y => absurd y (by omega)) (fun _ _ _ => HK_a hK h f (jq_b hd z1 z2 z3)))⟩)
theorem lw_ifThinned {a c : Int} {M : am_M} {K : Int → Int → am_M → Prop} {QL : Int → am_M → Prop} (h : Rel c M) (ra' : am_rg a) (hQ : ∀ x M1, wp_X6_ifThinned a M1 (K x) → QL x M1) (hK : HK c K) : wp_L_ifThinned a M QL := by
  have h' := h
  obtain ⟨⟨hd, hs, hN, r1, r2, ht⟩, hm, -⟩ := h'
  have rr : am_rg (chn M a (M 6 0)) := by have := chn_b hd a (M 6 0); unfold am_rg; omega
  exact dp_ifThinned hd hs Fr8_r hN ra' (fun z => ⟨rfl, hQ 1 M (mp_ifThinned hd hs hm ra' (fun _ => HK_x hK h (Ask_r hN) (Or.inl rfl)) (fun y => absurd y z))⟩) (fun z M1 f => ⟨rr, hQ 0 _ (mp_ifThinned hd hs (Mq_a hm f) ra' (fun y => absurd z y) (fun _ => HK_a hK h f rr))⟩)
theorem lw_leastOath {a c : Int} {M : am_M} {K : Int → Int → am_M → Prop} {QL : Int → am_M → Prop} (h : Rel c M) (ra' : am_rg a) (hQ : ∀ x M1, wp_X6_leastOath a M1 (K x) → QL x M1) (hK : HK c K) : wp_L_leastOath a M QL := by
  have h' := h
  obtain ⟨⟨hd, hs, hN, r1, r2, ht⟩, hm, -⟩ := h'
  have rr : am_rg (lo M a) := by have := lo_b M a; unfold am_rg; omega
  exact dp_leastOath hd hs Fr8_r hN ra' (fun z => ⟨rfl, hQ 1 M (mp_leastOath hd hs hm ra' (fun _ => HK_x hK h (Ask_r hN) (Or.inl rfl)) (fun y => absurd y z))⟩) (fun z M1 f => ⟨rr, hQ 0 _ (mp_leastOath hd hs (Mq_a hm f) ra' (fun y => absurd z y) (fun _ => HK_a hK h f rr))⟩)
theorem lw_cheapest {a c : Int} {M : am_M} {K : Int → Int → am_M → Prop} {QL : Int → am_M → Prop} (h : Rel c M) (ra' : am_rg a) (hQ : ∀ x M1, wp_X6_cheapest a M1 (K x) → QL x M1) (hK : HK c K) : wp_L_cheapest a M QL := by
  have h' := h
  obtain ⟨⟨hd, hs, hN, r1, r2, ht⟩, hm, -⟩ := h'
  exact dp_cheapest hd hs Fr8_r hN ra' (fun z => ⟨rfl, hQ 1 M (mp_cheapest hd hs hm ra' (fun _ => HK_x hK h (Ask_r hN) (Or.inl rfl)) (fun y => absurd y z))⟩) (fun z M1 f => ⟨cpq_b hd a, hQ 0 _ (mp_cheapest hd hs (Mq_a hm f) ra' (fun y => absurd z y) (fun _ => HK_a hK h f (cpq_b hd a)))⟩)
/-- the answers of a change -/
theorem HK_m {c y : Int} {K : Int → Int → am_M → Prop} {M M1 D' : am_M} (hK : HK (c + 1) K) (h : Rel c M) (hc : c + 1 ≤ 1000) (m : Mut c M M1 D') (hy : am_rg y) : Rm (am_up M1 80 0 y) D' (K 0) y := fun M' f hp hq z => hK 0 y M' (Rel_m h hc m (fun k hk => am_up_r hk) f hp hq) z (Or.inl rfl) (fun _ => ⟨by rw [f.1 80 (by omega) (by omega) (by omega) (by omega), am_up_s], hy⟩)
theorem Mq_m {c : Int} {M M1 D' : am_M} {x : Int} (hm : Mqr (M 70) M) (m : Mut c M M1 D') : Mqr (am_up M1 80 0 x 70) M := by rw [am_up_r (by omega), m.1 70 (by omega) (by omega)]; exact hm
theorem h2_m {c : Int} {M M1 D' : am_M} {x : Int} (h2 : 0 ≤ M 69 2 ∧ M 69 2 ≤ 6) (m : Mut c M M1 D') : 0 ≤ am_up M1 80 0 x 69 2 ∧ am_up M1 80 0 x 69 2 ≤ 6 := by rw [am_up_r (by omega), m.1 69 (by omega) (by omega)]; exact h2
theorem lw_add {a b c : Int} {M : am_M} {K : Int → Int → am_M → Prop} {QL : Int → am_M → Prop} (h : Rel c M) (hc : c + 1 ≤ 1000) (ra' : am_rg a) (rb' : am_rg b) (hQ : ∀ x M1, wp_X6_add a b M1 (K x) → QL x M1) (hK : HK (c + 1) K) : wp_L_add a b M QL := by
  have h' := h
  obtain ⟨hC, hm, e2, -⟩ := h'
  have hC' := hC
  obtain ⟨hd, hs, hN, r1, r2, ht⟩ := hC'
  have hR := Rel_c h (by omega : c ≤ c + 1) hc
  have h2 : 0 ≤ M 69 2 ∧ M 69 2 ≤ 6 := by rw [e2]; exact r2
  have n1 := hd.1
  have hp := pl_s (D := M) (t := a) n1.1
  have ry : am_rg (pl M a) := by unfold am_rg; omega
  refine dp_add hC hc ra' rb' (fun z => Or.inl ⟨rfl, hQ 1 M (mp_add hd hm h2 ra' rb' (fun _ => HK_x hK hR (Ask_r hN) (Or.inl rfl)) (fun y _ => absurd y z) (fun y _ _ => absurd y z))⟩) (fun z w => Or.inr ⟨rfl, hQ 2 M (mp_add hd hm h2 ra' rb' (fun y => absurd z y) (fun _ _ => HK_x hK hR (Ask_r hN) (Or.inr rfl)) (fun _ y1 y2 => ?_))⟩) (fun z w1 w2 M1 m => ⟨ry, hQ 0 _ (mp_add hd (Mq_m hm m) (h2_m h2 m) ra' rb' (fun y => absurd z y) (fun _ y => ?_) (fun _ _ _ => HK_m hK h hc m ry))⟩)
  · rcases w with w | ⟨i, i0, i1, i2⟩
    · omega
    · exact absurd i2 (y2 i i0 i1)
  · rcases y with w | ⟨i, i0, i1, i2⟩
    · omega
    · exact absurd i2 (w2 i i0 i1)
theorem lw_correct {a b c : Int} {M : am_M} {K : Int → Int → am_M → Prop} {QL : Int → am_M → Prop} (h : Rel c M) (hc : c + 1 ≤ 1000) (ra' : am_rg a) (rb' : am_rg b) (hQ : ∀ x M1, wp_X6_correct a b M1 (K x) → QL x M1) (hK : HK (c + 1) K) : wp_L_correct a b M QL := by
  have h' := h
  obtain ⟨hC, hm, e2, -⟩ := h'
  have hC' := hC
  obtain ⟨hd, hs, hN, r1, r2, ht⟩ := hC'
  have hR := Rel_c h (by omega : c ≤ c + 1) hc
  have h2 : 0 ≤ M 69 2 ∧ M 69 2 ≤ 6 := by rw [e2]; exact r2
  have ry : 0 ≤ a ∧ a < M 1 7 → am_rg (M 3 a) := fun z => by have := OKd_v hd z.1 z.2; unfold am_rg; omega
  exact dp_correct hC hc ra' rb' (fun z => Or.inl ⟨rfl, hQ 1 M (mp_correct hd hm h2 ra' rb' (fun _ => HK_x hK hR (Ask_r hN) (Or.inl rfl)) (fun y _ => absurd y z) (fun y _ => absurd y z))⟩) (fun z w => Or.inr ⟨rfl, hQ 2 M (mp_correct hd hm h2 ra' rb' (fun y => absurd z y) (fun _ _ => HK_x hK hR (Ask_r hN) (Or.inr rfl)) (fun _ y => absurd y w))⟩) (fun z w M1 m => ⟨ry z, hQ 0 _ (mp_correct hd (Mq_m hm m) (h2_m h2 m) ra' rb' (fun y => absurd z y) (fun _ y => absurd w y) (fun _ _ => HK_m hK h hc m (ry z)))⟩)
theorem kc_rg {c : Int} {D : am_M} (hd : OKd c D) : am_rg (kc D (D 1 7).toNat) := by
  have n1 := hd.1
  have := kc_b hd (D 1 7).toNat (by omega)
  unfold am_rg; omega
theorem kc_rg' {c p x : Int} {D : am_M} (hd : OKd c D) (hx : x = 0 ∨ x = 1) : am_rg (kc (am_up D 4 p x) (D 1 7).toNat) := by
  have := kc_rg (OKd_up4 (p := p) hd hx)
  rw [am_up_r (by omega)] at this
  exact this
theorem lw_drop {a c : Int} {M : am_M} {K : Int → Int → am_M → Prop} {QL : Int → am_M → Prop} (h : Rel c M) (hc : c + 1 ≤ 1000) (ra' : am_rg a) (hQ : ∀ x M1, wp_X6_drop a M1 (K x) → QL x M1) (hK : HK (c + 1) K) : wp_L_drop a M QL := by
  have h' := h
  obtain ⟨hC, hm, e2, -⟩ := h'
  have hC' := hC
  obtain ⟨hd, hs, hN, r1, r2, ht⟩ := hC'
  have hR := Rel_c h (by omega : c ≤ c + 1) hc
  have h2 : 0 ≤ M 69 2 ∧ M 69 2 ≤ 6 := by rw [e2]; exact r2
  have ry := kc_rg' (p := a) hd (Or.inl (rfl : (0 : Int) = 0))
  refine dp_drop hC hc ra' (fun z => Or.inl ⟨rfl, hQ 1 M (mp_drop hd hs hm h2 ra' (fun _ => HK_x hK hR (Ask_r hN) (Or.inl rfl)) (fun y _ => absurd y z) (fun y _ => absurd y z))⟩) (fun z w M1 f => Or.inr ⟨rfl, hQ 2 M1 (mp_drop hd hs (by rw [f.1 70 (by omega)]; exact hm) (by rw [f.1 69 (by omega)]; exact h2) ra' (fun y => absurd z y) (fun _ _ => HK_x hK hR f (Or.inr rfl)) (fun _ y => absurd y w))⟩) (fun z w M1 m => ⟨ry, hQ 0 _ (mp_drop hd hs (Mq_m hm m) (h2_m h2 m) ra' (fun y => absurd z y) (fun _ y => absurd w y) (fun _ _ => HK_m hK h hc m ry))⟩)
theorem lw_keep {a c : Int} {M : am_M} {K : Int → Int → am_M → Prop} {QL : Int → am_M → Prop} (h : Rel c M) (hc : c + 1 ≤ 1000) (ra' : am_rg a) (hQ : ∀ x M1, wp_X6_keep a M1 (K x) → QL x M1) (hK : HK (c + 1) K) : wp_L_keep a M QL := by
  have h' := h
  obtain ⟨hC, hm, e2, -⟩ := h'
  have hC' := hC
  obtain ⟨hd, hs, hN, r1, r2, ht⟩ := hC'
  have hR := Rel_c h (by omega : c ≤ c + 1) hc
  have h2 : 0 ≤ M 69 2 ∧ M 69 2 ≤ 6 := by rw [e2]; exact r2
  have ry := kc_rg' (p := a) hd (Or.inr (rfl : (1 : Int) = 1))
  refine dp_keep hC hc ra' (fun z => Or.inl ⟨rfl, hQ 1 M (mp_keep hd hm h2 ra' (fun _ => HK_x hK hR (Ask_r hN) (Or.inl rfl)) (fun y _ => absurd y z) (fun y _ => absurd y z))⟩) (fun z w => Or.inr ⟨rfl, hQ 2 M (mp_keep hd hm h2 ra' (fun y => absurd z y) (fun _ _ => HK_x hK hR (Ask_r hN) (Or.inr rfl)) (fun _ y => absurd w y))⟩) (fun z w M1 m => ⟨ry, hQ 0 _ (mp_keep hd (Mq_m hm m) (h2_m h2 m) ra' (fun y => absurd z y) (fun _ y => absurd y w) (fun _ _ => HK_m hK h hc m ry))⟩)
theorem lw_thin {a c : Int} {M : am_M} {K : Int → Int → am_M → Prop} {QL : Int → am_M → Prop} (h : Rel c M) (hc : c + 1 ≤ 1000) (ra' : am_rg a) (hQ : ∀ x M1, wp_X6_thin a M1 (K x) → QL x M1) (hK : HK (c + 1) K) : wp_L_thin a M QL := by
  have h' := h
  obtain ⟨hC, hm, e2, -⟩ := h'
  have hC' := hC
  obtain ⟨hd, hs, hN, r1, r2, ht⟩ := hC'
  have hR := Rel_c h (by omega : c ≤ c + 1) hc
  have h2 : 0 ≤ M 69 2 ∧ M 69 2 ≤ 6 := by rw [e2]; exact r2
  have ry : am_rg (chn M a (M 6 0)) := by have := chn_b hd a (M 6 0); unfold am_rg; omega
  exact dp_thin hC hc ra' (fun z => ⟨rfl, hQ 1 M (mp_thin hd hs hm h2 ra' (fun _ => HK_x hK hR (Ask_r hN) (Or.inl rfl)) (fun y => absurd y z))⟩) (fun z M1 m => ⟨ry, hQ 0 _ (mp_thin hd hs (Mq_m hm m) (h2_m h2 m) ra' (fun y => absurd z y) (fun _ => HK_m hK h hc m ry))⟩)
theorem lw_tear {a c : Int} {M : am_M} {K : Int → Int → am_M → Prop} {QL : Int → am_M → Prop} (h : Rel c M) (hc : c + 1 ≤ 1000) (ra' : am_rg a) (hQ : ∀ x M1, wp_X6_tear a M1 (K x) → QL x M1) (hK : HK (c + 1) K) : wp_L_tear a M QL := by
  have h' := h
  obtain ⟨hC, hm, e2, -⟩ := h'
  have hC' := hC
  obtain ⟨hd, hs, hN, r1, r2, ht⟩ := hC'
  have hR := Rel_c h (by omega : c ≤ c + 1) hc
  have h2 : 0 ≤ M 69 2 ∧ M 69 2 ≤ 6 := by rw [e2]; exact r2
  have n1 := hd.1
  have ry : am_rg (so M a) := by have := so_b M a; unfold am_rg; omega
  exact dp_tear hC hc ra' (fun z => ⟨rfl, hQ 1 M (mp_tear hd hs hm h2 ra' (fun _ => HK_x hK hR (Ask_r hN) (Or.inl rfl)) (fun y => absurd y z))⟩) (fun z M1 m => ⟨ry, hQ 0 _ (mp_tear hd hs (Mq_m hm m) (h2_m h2 m) ra' (fun y => absurd z y) (fun _ => HK_m hK h hc m ry))⟩)
theorem lw_set {a b c : Int} {M : am_M} {K : Int → Int → am_M → Prop} {QL : Int → am_M → Prop} (h : Rel c M) (hc : c + 1 ≤ 1000) (ra' : am_rg a) (rb' : am_rg b) (hQ : ∀ x M1, wp_X6_set a b M1 (K x) → QL x M1) (hK : HK (c + 1) K) : wp_L_set a b M QL := by
  have h' := h
  obtain ⟨hC, hm, e2, -, -, hL⟩ := h'
  have hC' := hC
  obtain ⟨hd, hs, hN, r1, r2, ht⟩ := hC'
  have hR := Rel_c h (by omega : c ≤ c + 1) hc
  have h2 : 0 ≤ M 69 2 ∧ M 69 2 ≤ 6 := by rw [e2]; exact r2
  have rg6 : 0 ≤ a ∧ a < 3 → am_rg (M 6 a) := fun z => by
    have h4 := hd.2.2.2.1
    have h5 := hd.2.2.2.2.1
    have h6 := hd.2.2.2.2.2.1
    have : a = 0 ∨ a = 1 ∨ a = 2 := by omega
    unfold am_rg
    rcases this with y | y | y <;> subst y <;> omega
  refine dp_set hC hc ra' rb' (fun z => Or.inl ⟨rfl, hQ 1 M (mp_set hm hL h2 ra' rb' (fun _ => HK_x hK hR (Ask_r hN) (Or.inl rfl)) (fun y _ => absurd y z) (fun y _ => absurd y z))⟩) (fun z w => Or.inr ⟨rfl, hQ 2 M (mp_set hm hL h2 ra' rb' (fun y => absurd z y) (fun _ _ => HK_x hK hR (Ask_r hN) (Or.inr rfl)) (fun _ y => absurd y w))⟩) (fun z w M1 m => ⟨rg6 z, hQ 0 _ (mp_set (Mq_m hm m) ?_ (h2_m h2 m) ra' rb' (fun y => absurd z y) (fun _ y => absurd w y) (fun _ _ => HK_m hK h hc m (rg6 z)))⟩)
  unfold LH at hL ⊢
  rw [am_up_r (by omega), am_up_r (by omega), m.1 73 (by omega) (by omega), m.1 74 (by omega) (by omega)]
  exact hL
theorem lw_note {a b c : Int} {M : am_M} {K : Int → Int → am_M → Prop} {QL : Int → am_M → Prop} (h : Rel c M) (hc : c + 1 ≤ 1000) (ra' : am_rg a) (rb' : am_rg b) (hQ : ∀ x M1, wp_X6_note a b M1 (K x) → QL x M1) (hK : HK (c + 1) K) : wp_L_note a b M QL := by
  have h' := h
  obtain ⟨hC, hm, e2, -⟩ := h'
  have hC' := hC
  obtain ⟨hd, hs, hN, r1, r2, ht⟩ := hC'
  have hR := Rel_c h (by omega : c ≤ c + 1) hc
  have h2 : 0 ≤ M 69 2 ∧ M 69 2 ≤ 6 := by rw [e2]; exact r2
  have h8 := hd.2.2.2.2.2.2.1
  have ry : am_rg (M 1 8) := by unfold am_rg; omega
  exact dp_note hC hc ra' rb' (fun z => Or.inl ⟨rfl, hQ 1 M (mp_note hd hm h2 ra' rb' (fun _ => HK_x hK hR (Ask_r hN) (Or.inl rfl)) (fun y _ => absurd y z) (fun y _ => absurd y z))⟩) (fun z w => Or.inr ⟨rfl, hQ 2 M (mp_note hd hm h2 ra' rb' (fun y => absurd z y) (fun _ _ => HK_x hK hR (Ask_r hN) (Or.inr rfl)) (fun _ y => absurd w (by omega)))⟩) (fun z w M1 m => ⟨ry, hQ 0 _ (mp_note hd (Mq_m hm m) (h2_m h2 m) ra' rb' (fun y => absurd z y) (fun _ y => absurd y (by omega)) (fun _ _ => HK_m hK h hc m ry))⟩)
