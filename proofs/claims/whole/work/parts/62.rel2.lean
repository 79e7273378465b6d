theorem lw_mend {c : Int} {M : am_M} {K : Int → Int → am_M → Prop} {QL : Int → am_M → Prop} (h : Rel c M) (hc : c + 1 ≤ 1000) (hQ : ∀ x M1, wp_X6_mend M1 (K x) → QL x M1) (hK : ∀ x M', Rel (c + 1) M' → am_rg x → K x x M') : wp_X5_mend M QL := by
  have h' := h
  obtain ⟨hC, hm, e2, -⟩ := h'
  have hC' := hC
  obtain ⟨hd, hs, hN, r1, r2, ht⟩ := hC'
  have n1 := hd.1
  refine dp_mend hC hc (fun m M1 no ex mu => hQ _ M1 (mp_mend hd hs (by rw [mu.1 70 (by omega) (by omega)]; exact hm) (by rw [mu.1 69 (by omega) (by omega), e2]; exact r2) no ex (fun M' f hp hq z => hK _ M' (Rel_m h hc mu (fun _ _ => rfl) f hp hq) ?_)))
  have b1 := kc_b hd (M 1 7).toNat (by omega)
  have b2 := kc_b (mI_d hd m) (M 1 7).toNat (by rw [(mI_sm m).1]; omega)
  unfold am_rg
  omega
theorem lw_strike {c : Int} {M : am_M} {K : Int → Int → am_M → Prop} {QL : Int → am_M → Prop} (h : Rel c M) (hc : c + 1 ≤ 1000) (hQ : ∀ x M1, wp_X6_strike M1 (K x) → QL x M1) (hK : ∀ x M', Rel (c + 1) M' → am_rg x → K x x M') : wp_X5_strike M QL := by
  have h' := h
  obtain ⟨hC, hm, e2, -⟩ := h'
  have hC' := hC
  obtain ⟨hd, hs, hN, r1, r2, ht⟩ := hC'
  have h8 := hd.2.2.2.2.2.2.1
  have b := (stN_b hd (M 1 8).toNat (by omega)).1
  exact dp_strike hC hc (fun M1 mu => hQ _ M1 (mp_strike hd hs (by rw [mu.1 70 (by omega) (by omega)]; exact hm) (by rw [mu.1 69 (by omega) (by omega), e2]; exact r2) (fun M' f hp hq z => hK _ M' (Rel_m h hc mu (fun _ _ => rfl) f hp hq) (by unfold am_rg; omega))))
theorem lw_append {a c : Int} {M : am_M} {K : Int → Int → am_M → Prop} {QL : Int → am_M → Prop} (h : Rel c M) (ra' : am_rg a) (hQ : ∀ x M1, wp_X6_append a M1 (K x) → QL x M1) (hK : HK c K) : wp_L_append a M QL := by
  have h' := h
  obtain ⟨⟨hd, hs, hN, r1, r2, ht⟩, hm, e2, hH, hT, hL⟩ := h'
  have hL4 : 0 ≤ M 69 4 ∧ M 69 4 ≤ 60 := by rw [hT.1]; exact hT.2.1
  refine dp_append ht ra' (fun z => Or.inl ⟨rfl, hQ 1 M (mp_append hL4 ra' (fun _ => HK_x hK h (Ask_r hN) (Or.inl rfl)) (fun y _ => absurd y z) (fun y _ => absurd y z))⟩) (fun z w => Or.inr ⟨rfl, hQ 2 M (mp_append hL4 ra' (fun y => absurd z y) (fun _ _ => HK_x hK h (Ask_r hN) (Or.inr rfl)) (fun _ y => absurd y (by rw [hT.1]; omega)))⟩) (fun z w => ⟨by have := ht.1; unfold am_rg; omega, hQ 0 _ ?_⟩)
  obtain ⟨M2, hM2⟩ : ∃ M2, M2 = am_up (am_up (am_up M 65 (M 64 1) a) 64 1 (M 64 1 + 1)) 80 0 (M 64 1 + 1) := ⟨_, rfl⟩
  have e4 : M2 69 4 = M 64 1 := by rw [hM2, am_up_r (by omega), am_up_r (by omega), am_up_r (by omega)]; exact hT.1
  rw [← hM2]
  refine mp_append (by rw [e4]; exact ht.1) ra' (fun y => absurd z y) (fun _ y => absurd y (by rw [e4]; omega)) (fun _ _ => ?_)
  rw [e4]
  obtain ⟨M', hM'⟩ : ∃ M', M' = am_up (am_up (am_up M2 69 5 0) 72 (M 64 1) a) 69 4 (M 64 1 + 1) := ⟨_, rfl⟩
  rw [← hM']
  have f : ∀ k, k ≠ 64 → k ≠ 65 → k ≠ 69 → k ≠ 72 → k ≠ 80 → M' k = M k := fun k k1 k2 k3 k4 k5 => by rw [hM', am_up_r k3, am_up_r k4, am_up_r k3, hM2, am_up_r k5, am_up_r k1, am_up_r k2]
  have a64 : M' 64 1 = M 64 1 + 1 := by rw [hM', am_up_r (by omega), am_up_r (by omega), am_up_r (by omega), hM2, am_up_r (by omega), am_up_s]
  have a65 : M' 65 = upR (M 65) (M 64 1) a := by
    rw [hM', am_up_r (by omega), am_up_r (by omega), am_up_r (by omega), hM2, am_up_r (by omega), am_up_r (by omega)]
    funext i
    unfold am_up upR
    by_cases y : i = M 64 1
    · rw [if_pos ⟨rfl, y⟩, if_pos y]
    · rw [if_neg (fun x => y x.2), if_neg y]
  have a72 : M' 72 = upR (M 72) (M 64 1) a := by
    have : M2 72 = M 72 := by rw [hM2, am_up_r (by omega), am_up_r (by omega), am_up_r (by omega)]
    rw [hM', am_up_r (by omega)]
    funext i
    unfold am_up upR
    by_cases y : i = M 64 1
    · rw [if_pos ⟨rfl, y⟩, if_pos y]
    · rw [if_neg (fun x => y x.2), if_neg y, if_neg (fun x => by omega), this]
  have a69 : ∀ j, j ≠ 4 → j ≠ 5 → M' 69 j = M 69 j := fun j j4 j5 => by rw [hM', am_up_n j4, am_up_r (by omega), am_up_n j5, hM2, am_up_r (by omega), am_up_r (by omega), am_up_r (by omega)]
  have a4 : M' 69 4 = M 64 1 + 1 := by rw [hM', am_up_s]
  have a5 : M' 69 5 = 0 := by rw [hM', am_up_n (by omega), am_up_r (by omega), am_up_s]
  have a80 : M' 80 0 = M 64 1 + 1 := by rw [hM', am_up_r (by omega), am_up_r (by omega), am_up_r (by omega), hM2, am_up_s]
  have F : Fr8 M M' := fun k k1 k2 => f k (by omega) (by omega) (by omega) (by omega) (by omega)
  have e14 : M' 14 = M 14 := f 14 (by omega) (by omega) (by omega) (by omega) (by omega)
  refine hK 0 _ M' ⟨⟨OKd_fr hd F, OKs_fr hs F, NV_sm (NV_m hN (f 10 (by omega) (by omega) (by omega) (by omega) (by omega)) (f 13 (by omega) (by omega) (by omega) (by omega) (by omega))) (Sm_fr F), by rw [e14]; exact r1, by rw [e14]; exact r2, ?_⟩, ?_, by rw [a69 2 (by omega) (by omega), e14]; exact e2, HS_n hH (fun k hk => ?_) (f 71 (by omega) (by omega) (by omega) (by omega) (by omega)), ?_, ?_⟩ a5 (Or.inl rfl) (fun _ => ⟨a80, by have := ht.1; unfold am_rg; omega⟩)
  · unfold OKt at ht ⊢
    rw [a64, a65]
    refine ⟨by omega, fun i i0 i1 => ?_⟩
    unfold upR
    by_cases y : i = M 64 1
    · rw [if_pos y]; exact z
    · rw [if_neg y]; exact ht.2 i i0 (by omega)
  · rw [f 70 (by omega) (by omega) (by omega) (by omega) (by omega)]; exact Mqr_d hm F
  · by_cases y : k = 64 ∨ k = 65
    · omega
    · exact f k (by omega) (by omega) (by omega) (by omega) (by omega)
  · obtain ⟨t1, t2, t3⟩ := hT
    unfold TX
    rw [a4, a64, a65, a72]
    refine ⟨rfl, by omega, fun i i0 i1 => ?_⟩
    unfold upR
    by_cases y : i = M 64 1
    · rw [if_pos y, if_pos y]; exact ⟨rfl, z⟩
    · rw [if_neg y, if_neg y]; exact t3 i i0 (by omega)
  · unfold LH at hL ⊢
    rw [f 73 (by omega) (by omega) (by omega) (by omega) (by omega), f 74 (by omega) (by omega) (by omega) (by omega) (by omega)]; exact hL
theorem lw_clearBuffer {c : Int} {M : am_M} {K : Int → Int → am_M → Prop} {QL : Int → am_M → Prop} (h : Rel c M) (hQ : ∀ x M1, wp_X6_clearBuffer M1 (K x) → QL x M1) (hK : ∀ x M', Rel c M' → am_rg x → K x x M') : wp_X5_clearBuffer M QL := by
  obtain ⟨⟨hd, hs, hN, r1, r2, ht⟩, hm, e2, hH, hT, hL⟩ := h
  refine hQ _ _ (mp_clearBuffer ?_)
  obtain ⟨M', hM'⟩ : ∃ M', M' = am_up (am_up (am_up M 64 1 0) 69 5 0) 69 4 0 := ⟨_, rfl⟩
  have e4 : am_up M 64 1 0 69 4 = M 64 1 := by rw [am_up_r (by omega)]; exact hT.1
  rw [← hM', e4]
  have f : ∀ k, k ≠ 64 → k ≠ 69 → M' k = M k := fun k k1 k3 => by rw [hM', am_up_r k3, am_up_r k3, am_up_r k1]
  have a64 : M' 64 1 = 0 := by rw [hM', am_up_r (by omega), am_up_r (by omega), am_up_s]
  have a69 : M' 69 2 = M 69 2 := by rw [hM', am_up_n (by omega), am_up_n (by omega), am_up_r (by omega)]
  have a4 : M' 69 4 = 0 := by rw [hM', am_up_s]
  have F : Fr8 M M' := fun k k1 k2 => f k (by omega) (by omega)
  have e14 : M' 14 = M 14 := f 14 (by omega) (by omega)
  refine hK _ M' ⟨⟨OKd_fr hd F, OKs_fr hs F, NV_sm (NV_m hN (f 10 (by omega) (by omega)) (f 13 (by omega) (by omega))) (Sm_fr F), by rw [e14]; exact r1, by rw [e14]; exact r2, ?_⟩, ?_, by rw [a69, e14]; exact e2, HS_n hH (fun k hk => f k (by omega) (by omega)) (f 71 (by omega) (by omega)), ?_, ?_⟩ (by have := ht.1; unfold am_rg; omega)
  · unfold OKt
    rw [a64]
    exact ⟨by omega, fun i i0 i1 => by omega⟩
  · rw [f 70 (by omega) (by omega)]; exact Mqr_d hm F
  · unfold TX
    rw [a4, a64]
    exact ⟨rfl, by omega, fun i i0 i1 => by omega⟩
  · unfold LH at hL ⊢
    rw [f 73 (by omega) (by omega), f 74 (by omega) (by omega)]; exact hL
theorem Nc_s {M M' : am_M} (hN : NV M M) (f : Frs (am_up M 69 5 0) M') : Nc M M' := by
  refine ⟨fun k hk => by rw [f.1 k (by omega) (by omega) (by omega), am_up_r (by omega)], by rw [f.1 64 (by omega) (by omega) (by omega), am_up_r (by omega)], NV_m hN (by rw [f.1 10 (by omega) (by omega) (by omega), am_up_r (by omega)]) (by rw [f.1 13 (by omega) (by omega) (by omega), am_up_r (by omega)]), ?_, ?_⟩
  · rw [f.2 2 (by omega), am_up_n (by omega)]
  · rw [f.2 4 (by omega), am_up_n (by omega)]
theorem lw_firstError {c : Int} {M : am_M} {K : Int → Int → am_M → Prop} {QL : Int → am_M → Prop} (h : Rel c M) (hQ : ∀ x M1, wp_X6_firstError M1 (K x) → QL x M1) (hK : ∀ x M', Rel c M' → am_rg x → K x x M') : wp_X5_firstError M QL := by
  have h' := h
  obtain ⟨⟨hd, hs, hN, r1, r2, ht⟩, hm, e2, hH, hT, hL⟩ := h'
  refine dp_firstError ht (fun r gl => hQ r M (mp_firstError hT (fun r' M' gl' f => ?_)))
  rw [← GL_u gl gl']
  have := ht.1
  have g1 := gl.1
  have g2 := gl.2.1
  exact hK r M' (Rel_n h (Nc_s hN f)) (by unfold am_rg; omega)
theorem Rel_t {c : Int} {M M1 M2 M' D' : am_M} (h : Rel c M) (hc : c + 1 ≤ 1000) (m : MutT c M M1 D') (e : ∀ k, k ≠ 80 → M2 k = M1 k) (f : FmT M2 M') (hp : HPm M2 M') (hq : Mqr (M' 70) D') (e4 : M' 69 4 = 0) : Rel (c + 1) M' := by
  obtain ⟨⟨hd, hs, hN, r1, r2, ht⟩, hm, e2, hH, hT, hL⟩ := h
  obtain ⟨m1, m64, m2, m3, m4, m5, m6⟩ := m
  have g : ∀ k, k ≠ 69 → k ≠ 70 → k ≠ 71 → k ≠ 78 → k ≠ 79 → k ≠ 80 → M' k = M1 k := fun k a b d x y w => (f.1 k a b d x y).trans (e k w)
  have F : Fr8 M1 M' := fun k k1 k2 => g k (by omega) (by omega) (by omega) (by omega) (by omega) (by omega)
  have hpm : HPm M M' := HPm_t hp (by rw [e 69 (by omega), m1 69 (by omega) (by omega) (by omega) (by omega) (by omega)]) (by rw [e 70 (by omega), m1 70 (by omega) (by omega) (by omega) (by omega) (by omega)]) (by rw [e 71 (by omega), m1 71 (by omega) (by omega) (by omega) (by omega) (by omega)]) rfl rfl
  have hpc : HPc M M' := HPc_t (fun _ _ => rfl) (fun k k1 k2 => g k (by omega) (by omega) (by omega) (by omega) (by omega) (by omega)) m2
  obtain ⟨y1, y2, y3, y4⟩ := HS_m hd hm e2 r2 hH hpc hpm
  have e64 : M' 64 1 = 0 := by rw [g 64 (by omega) (by omega) (by omega) (by omega) (by omega) (by omega)]; exact m64
  have e73 : M' 73 = M 73 := by rw [g 73 (by omega) (by omega) (by omega) (by omega) (by omega) (by omega), m1 73 (by omega) (by omega) (by omega) (by omega) (by omega)]
  have e74 : M' 74 = M 74 := by rw [g 74 (by omega) (by omega) (by omega) (by omega) (by omega) (by omega), m1 74 (by omega) (by omega) (by omega) (by omega) (by omega)]
  refine ⟨⟨OKd_fr m4 F, OKs_fr m5 F, NV_sm (NV_m m6 ?_ ?_) (Sm_fr F), y2, y3, ?_⟩, Mqr_n hq ?_, y1, fun s s0 s1 => ⟨OKd_c (y4 s s0 s1).1 (by omega) hc, (y4 s s0 s1).2⟩, ?_, ?_⟩
  · exact g 10 (by omega) (by omega) (by omega) (by omega) (by omega) (by omega)
  · exact g 13 (by omega) (by omega) (by omega) (by omega) (by omega) (by omega)
  · unfold OKt
    rw [e64]
    exact ⟨by omega, fun i i0 i1 => by omega⟩
  · have := EQn_fr F
    unfold EQn at this m3 ⊢
    obtain ⟨a1, a2, a3, a4, a5, a6, a7⟩ := this
    obtain ⟨b1, b2, b3, b4, b5, b6, b7⟩ := m3
    refine ⟨a1.trans b1, a2.trans b2, a3.trans b3, a4.trans b4, fun i i0 i1 => ?_, fun i i0 i1 => (a6 i i0 i1).trans (b6 i i0 i1), fun k k0 k1 => ?_⟩
    · obtain ⟨x1, x2, x3⟩ := a5 i i0 (by omega)
      obtain ⟨z1, z2, z3⟩ := b5 i i0 i1
      exact ⟨x1.trans z1, x2.trans z2, x3.trans z3⟩
    · obtain ⟨x1, x2⟩ := a7 k k0 (by omega)
      obtain ⟨z1, z2⟩ := b7 k k0 k1
      exact ⟨x1.trans z1, x2.trans z2⟩
  · unfold TX
    rw [e4, e64]
    exact ⟨rfl, by omega, fun i i0 i1 => by omega⟩
  · unfold LH at hL ⊢
    rw [e73, e74]; exact hL
theorem TX_m {t : Int → Int} {L : Int} {A B : am_M} (h : TX t L A) (e1 : B 69 4 = A 69 4) (e2 : B 72 = A 72) : TX t L B := by
  unfold TX at h ⊢
  rw [e1, e2]; exact h
theorem Nc_t {M M1 M' : am_M} (hN : NV M M) (g : ∀ k, k ≠ 64 → k ≠ 66 → k ≠ 67 → M1 k = M k) (g4 : M1 64 1 = M 64 1) (f : FrT M1 M') : Nc M M' := by
  refine ⟨fun k hk => by rw [f.1 k (by omega) (by omega) (by omega)]; exact g k (by omega) (by omega) (by omega), by rw [f.1 64 (by omega) (by omega) (by omega)]; exact g4, NV_m hN (by rw [f.1 10 (by omega) (by omega) (by omega)]; exact g 10 (by omega) (by omega) (by omega)) (by rw [f.1 13 (by omega) (by omega) (by omega)]; exact g 13 (by omega) (by omega) (by omega)), ?_, ?_⟩
  · rw [f.2 2 (by omega) (by omega), g 69 (by omega) (by omega) (by omega)]
  · rw [f.2 4 (by omega) (by omega), g 69 (by omega) (by omega) (by omega)]
theorem lw_addAll {c : Int} {M : am_M} {K : Int → Int → am_M → Prop} {QL : Int → am_M → Prop} (h : Rel c M) (hc : c + 1 ≤ 1000) (hQ : ∀ x M1, wp_X6_addAll M1 (K x) → QL x M1) (hK : HK (c + 1) K) : wp_L_addAll M QL := by
  have h' := h
  obtain ⟨hC, hm, e2, hH, hT, hL⟩ := h'
  have hC' := hC
  obtain ⟨hd, hs, hN, r1, r2, ht⟩ := hC'
  have hR := Rel_c h (by omega : c ≤ c + 1) hc
  have h2 : 0 ≤ M 69 2 ∧ M 69 2 ≤ 6 := by rw [e2]; exact r2
  have hr : 8 ≤ st (M 65) (M 64 1).toNat → (1 ≤ nP M ∧ nP M ≤ 16) ∧ ∀ k, 0 ≤ k → k < nP M → (0 ≤ tP M k ∧ tP M k ≤ 9999) ∧ (-999 ≤ vP M k ∧ vP M k ≤ 999) := fun z => tP_b ht z
  have n1 := hd.1
  refine dp_addAll hC hc (fun z => Or.inl ⟨rfl, hQ 1 M (mp_addAll (t := M 65) (L := M 64 1) hd hc hm hT h2 (nP M) (tP M) (vP M) rfl rfl rfl hr (fun _ M' f z5 => hK 1 0 M' (Rel_n hR (Nc_t hN (fun _ _ _ _ => rfl) rfl f)) z5 (Or.inr (Or.inl rfl)) (fun w => by omega)) (fun y _ => absurd y z) (fun y _ _ => absurd y z))⟩) (fun z w M1 g => Or.inr ⟨rfl, hQ 2 M1 (mp_addAll (t := M 65) (L := M 64 1) hd hc (by rw [g.1 70 (by omega) (by omega) (by omega)]; exact hm) (TX_m hT (by rw [g.1 69 (by omega) (by omega) (by omega)]) (g.1 72 (by omega) (by omega) (by omega))) (by rw [g.1 69 (by omega) (by omega) (by omega)]; exact h2) (nP M) (tP M) (vP M) rfl rfl rfl hr (fun y => absurd z y) (fun _ _ M' f z5 => hK 2 0 M' (Rel_n hR (Nc_t hN g.1 (g.2 1 (by omega)) f)) z5 (Or.inr (Or.inr rfl)) (fun y => by omega)) (fun _ y1 y2 => absurd ⟨y1, y2⟩ w))⟩) (fun z w1 w2 M1 m => ?_)
  have bn := (hr z).1
  have ry : am_rg (M 1 7 + nP M) := by unfold am_rg; omega
  refine ⟨ry, hQ 0 _ (mp_addAll (t := M 65) (L := M 64 1) hd hc ?_ (TX_m hT ?_ ?_) ?_ (nP M) (tP M) (vP M) rfl rfl rfl hr (fun y => absurd z y) (fun _ y => absurd ⟨w1, w2⟩ y) (fun _ _ _ M' f hp hq z5 z4 => hK 0 _ M' (Rel_t h hc m (fun k hk => am_up_r hk) f hp hq z4) z5 (Or.inl rfl) (fun _ => ⟨?_, ry⟩)))⟩
  · rw [am_up_r (by omega), m.1 70 (by omega) (by omega) (by omega) (by omega) (by omega)]; exact hm
  · rw [am_up_r (by omega), m.1 69 (by omega) (by omega) (by omega) (by omega) (by omega)]
  · rw [am_up_r (by omega), m.1 72 (by omega) (by omega) (by omega) (by omega) (by omega)]
  · rw [am_up_r (by omega), m.1 69 (by omega) (by omega) (by omega) (by omega) (by omega)]; exact h2
  · rw [f.1 80 (by omega) (by omega) (by omega) (by omega) (by omega), am_up_s]
theorem lw_undo {c : Int} {M : am_M} {K : Int → Int → am_M → Prop} {QL : Int → am_M → Prop} (h : Rel c M) (hQ : ∀ x M1, wp_X6_undo M1 (K x) → QL x M1) (hK : HK c K) : wp_L_undo M QL := by
  have h' := h
  obtain ⟨hC, hm, e2, hH, hT, hL⟩ := h'
  have hC' := hC
  obtain ⟨hd, hs, hN, r1, r2, ht⟩ := hC'
  have h2 : 0 ≤ M 69 2 ∧ M 69 2 ≤ 6 := by rw [e2]; exact r2
  refine dp_undo hC (fun z => (hH (M 14 2 - 1) (by omega) (by omega)).1) (fun z => ⟨rfl, hQ 1 M (mp_undo h2 (fun _ => HK_x hK h (Ask_r hN) (Or.inl rfl)) (fun y => by omega))⟩) (fun z M1 f1 f2 f3 f4 f5 f6 f7 => ?_)
  obtain ⟨x, y⟩ := hH (M 14 2 - 1) (by omega) (by omega)
  have x7 := x.1
  have x8 := x.2.2.2.2.2.2.1
  have ry : am_rg (M 14 2 - 1) := by unfold am_rg; omega
  obtain ⟨M2, hM2⟩ : ∃ M2, M2 = am_up M1 80 0 (M 14 2 - 1) := ⟨_, rfl⟩
  rw [← hM2]
  have e69 : M2 69 = M 69 := by rw [hM2, am_up_r (by omega)]; exact f1 69 (by omega)
  refine ⟨ry, hQ 0 _ (mp_undo (by rw [e69]; exact h2) (fun w => by rw [e69] at w; omega) (fun _ M' g1 g2 g3 g4 g5 => ?_))⟩
  rw [e69] at g2 g3 g4 ⊢
  have e71 : M2 71 = M 71 := by rw [hM2, am_up_r (by omega)]; exact f1 71 (by omega)
  rw [e71] at g4
  have g : ∀ k, k ≠ 69 → k ≠ 70 → k ≠ 80 → M' k = M1 k := fun k a b d => by rw [g1 k a b, hM2, am_up_r d]
  have F : Fr8 M1 M' := fun k k1 k2 => g k (by omega) (by omega) (by omega)
  have e14 : M' 14 = M1 14 := g 14 (by omega) (by omega) (by omega)
  have gM : ∀ k, 14 < k → k ≠ 69 → k ≠ 70 → k ≠ 80 → M' k = M k := fun k a b d w => (g k b d w).trans (f1 k (Or.inr a))
  have hrw : ∀ s, rwo M' s = rwo M s := fun s => by unfold rwo; rw [e14, f2]
  rw [e2]
  refine hK 0 _ M' ⟨⟨OKd_fr f5 F, OKs_fr f6 F, NV_sm (NV_m f7 (g 10 (by omega) (by omega) (by omega)) (g 13 (by omega) (by omega) (by omega))) (Sm_fr F), by rw [e14, f2]; exact r1, by rw [e14, f3]; omega, ?_⟩, ?_, by rw [g3, e14, f3, e2], fun s s0 s1 => ?_, ?_, ?_⟩ g5 (Or.inl rfl) (fun _ => ⟨by rw [g1 80 (by omega) (by omega), hM2, am_up_s], ry⟩)
  · unfold OKt at ht ⊢
    rw [gM 64 (by omega) (by omega) (by omega) (by omega), gM 65 (by omega) (by omega) (by omega) (by omega)]; exact ht
  · refine Mqr_d (Mqr_n (Mqr_cg y x7.2 x8.2 (fun k k0 k1 => ?_)) f4) F
    rw [g4 k k0 k1, e2]
  · rw [e14, f3] at s1
    obtain ⟨a, b⟩ := hH s s0 (by omega)
    have hf : Fr8 (dia M (rwo M s)) (dia M' (rwo M s)) := fun k k1 k2 => by
      have := rwo_b M s
      unfold dia
      exact gM _ (by omega) (by omega) (by omega) (by omega)
    rw [hrw, gM 71 (by omega) (by omega) (by omega) (by omega)]
    exact ⟨OKd_fr a hf, Mqr_d b hf⟩
  · unfold TX at hT ⊢
    rw [g2 4 (by omega) (by omega), gM 64 (by omega) (by omega) (by omega) (by omega), gM 65 (by omega) (by omega) (by omega) (by omega), gM 72 (by omega) (by omega) (by omega) (by omega)]
    exact hT
  · unfold LH at hL ⊢
    rw [gM 73 (by omega) (by omega) (by omega) (by omega), gM 74 (by omega) (by omega) (by omega) (by omega)]; exact hL
theorem lw_area {w c : Int} {M : am_M} {K : Int → Int → am_M → Prop} {QL : Int → am_M → Prop} (h : Rel c M) (hw : w = 0 ∨ w = 1) (hQ : ∀ x M1, wp_X6_area w M1 (K x) → QL x M1) (hK : ∀ x M', Rel c M' → K x x M') : wp_X5_area w M QL := by
  have h' := h
  obtain ⟨⟨hd, hs, hN, r1, r2, ht⟩, hm, -⟩ := h'
  exact dp_area hd hs Fr8_r hw (hQ _ M (mp_area hd hs hm hw (hK _ _ (Rel_n h (Nc_x (Ask_r hN) (Fp_0 Fq_r).1)))))
theorem lw_droppedShare {c : Int} {M : am_M} {K : UInt64 → UInt64 → am_M → Prop} {QL : UInt64 → am_M → Prop} (h : Rel c M) (hQ : ∀ x M1, wp_X6_droppedShare M1 (K x) → QL x M1) (hK : ∀ x M', Rel c M' → (Op.cmpValue (FP.dcmp x x) .l).toInt = 0 → K x x M') : wp_X5_droppedShare M QL := by
  have h' := h
  obtain ⟨⟨hd, hs, hN, r1, r2, ht⟩, hm, -⟩ := h'
  exact dp_droppedShare hd Fr8_r (hQ _ M (mp_droppedShare hd hm (fun M' f _ => hK _ M' (Rel_n h (Nc_x (Ask_r hN) f)) (okv_1 (dsh_ok hd)).2.2)))
theorem lw_digest {c : Int} {M : am_M} {K : Int → Int → am_M → Prop} {QL : Int → am_M → Prop} {X : am_X} (h : Rel c M) (hQ : ∀ x M1, wp_X6_digest M1 (K x) → QL x M1) (hK : ∀ x M', Rel c M' → K x x M') : wp_X5_digest M QL X := by
  have h' := h
  obtain ⟨⟨hd, hs, hN, r1, r2, ht⟩, hm, e2, hH, hT, hL⟩ := h'
  refine dp_digest hd hs Fr8_r hN ht (by unfold am_rg; omega) (fun M1 f => hQ _ M1 (mp_digest (t := M 65) (L := M 64 1) hd hs (by rw [f.1 70 (by omega)]; exact hm) hT.2.1 (by rw [f.1 69 (by omega)]; exact hT.1) (fun i i0 i1 => ?_) (by rw [f.1 69 (by omega), e2]; unfold am_rg; omega) ?_))
  · obtain ⟨a, b⟩ := hT.2.2 i i0 i1
    rw [f.1 72 (by omega)]
    exact ⟨a, by unfold am_rg; omega⟩
  · rw [f.1 69 (by omega), e2]
    exact fun M' g _ => hK _ M' (Rel_n h (Nc_x f g))
theorem lci_0 (x : Int) : am_lci x x = 0 := by unfold am_lci; rw [if_neg (by omega), if_pos rfl]
theorem lw_end {x y : Int} {M' : am_M} {N F : am_M → Prop} (z5 : M' 69 5 = x) (x012 : x = 0 ∨ x = 1 ∨ x = 2) (z80 : x = 0 → M' 80 0 = y ∧ am_rg y) (n : N M') : wp_X6_thrown M' (fun x5 M6 => (am_rg x5) ∧ (am_rg x) ∧ (x5 = x → (am_rg x) ∧ (¬ x = 0 → N M6) ∧ (¬ (¬ x = 0) → (am_rg y) ∧ ((am_rl (M6 80 0) ∧ am_rl y) ∨ (M6 80 0) = y) ∧ ((am_rg (am_lci (M6 80 0) y)) ∧ ((am_lci (M6 80 0) y) = 0 → N M6) ∧ (¬ (am_lci (M6 80 0) y) = 0 → F M6)))) ∧ (¬ x5 = x → F M6)) := by
  unfold wp_X6_thrown
  have rx : am_rg x := by unfold am_rg; omega
  rw [z5]
  refine ⟨rx, rx, fun _ => ⟨rx, fun _ => n, fun e => ?_⟩, fun e => absurd rfl e⟩
  obtain ⟨a, b⟩ := z80 (Classical.byContradiction e)
  rw [a, lci_0]
  exact ⟨b, Or.inr rfl, by unfold am_rg; omega, fun _ => n, fun e => absurd rfl e⟩
