/-! the law's acts -/
theorem rk_fr {M M' : am_M} (h : Fr8 M M') (p : Int) : rk M' p = rk M p := by
  unfold rk
  rw [fr_4 h, ek_fr h, lk_fr h, mx_fr h, span_fr h, fr_6 h]
theorem lp_acts21 {M : am_M} {Q : Int → am_M → Prop} {X : am_X} {c v1 v2 v3 s0 : Int} (hI : Iv c M) (hc : c + 1 ≤ 1000) (h2 : 0 ≤ v2) (r2 : am_rg v2) (h3 : v3 = M 1 7) (hs0 : v3 ≠ 0 → 0 ≤ s0 ∧ s0 < v3) (hq : ∀ M', Iv (c + 1) M' → Q 1 M') : wj_L_acts_21 Q X v1 v2 v3 s0 M := by
  subst h3
  have hI' := hI
  obtain ⟨⟨hd, hs, hN, hr1, hr2, hT⟩, hV⟩ := hI'
  have n := hd.1
  have hd' := hd
  obtain ⟨-, h2d, hinc, o1, o2, o3, -⟩ := hd'
  have c0 := hd.2.2.2.2.2.2.2.2.2.2
  have up : ∀ M', Iv c M' → Iv (c + 1) M' := fun M' h => ⟨Cp_c h.1 (by omega) hc, h.2⟩
  have a0 : Ask M M M := Ask_r hN
  have kcb := kc_b hd (M 1 7).toNat (by omega)
  -- a point more
  have f68 : wj_L_acts_68 Q X v2 (M 1 7) M := by
    have tm := tm_b h2 (m := 400) (by omega)
    obtain ⟨t, ht⟩ : ∃ t, t = Int.tmod v2 400 := ⟨_, rfl⟩
    rw [← ht] at tm
    have loop : ∀ (r k : Nat) (v6 : Int) (M1 : am_M), (k : Int) + r = M 1 7 → (v6 = 1 ∨ (v6 = 0 ∧ M 1 7 ≤ 23 ∧ ∀ i, 0 ≤ i → i < (k : Int) → M 2 i ≠ t)) → Ask M M M1 → wl_L_acts_91 Q X (r + 1) v2 (M 1 7) t v6 (k : Int) M1 := by
      intro r
      induction r with
      | zero =>
        intro k v6 M1 hk h6 a1
        have F : Fr8 M M1 := Fc_f Fr8_r a1.1
        refine ⟨by unfold am_rg; omega, by unfold am_rg; omega, fun _ => ⟨by unfold am_rg; omega, fun _ => hq M1 (up M1 (Iv_ask hI a1)), fun e => ⟨⟨i32_b _, by unfold am_rg; omega, by omega⟩, ?_⟩⟩, fun e => absurd (by omega) e⟩
        obtain ⟨-, h23, hfree⟩ := h6.resolve_left (fun z => e (by omega))
        have tv := tm_b (sh_b r2 h2 9) (m := 121) (by omega)
        obtain ⟨v, hv⟩ : ∃ v, v = Int.tmod ((Int32.ofInt v2 >>> (Int32.ofInt 9 &&& 31)).toInt) 121 - 60 := ⟨_, rfl⟩
        rw [← hv]
        have I1 := Iv_ask hI a1
        have e17 : M1 1 7 = M 1 7 := by rw [fr_1 F]
        have e2 : M1 2 = M 2 := fr_2 F
        refine dp_add I1.1 hc (by unfold am_rg; omega) (by unfold am_rg; omega) (fun z => absurd ⟨by omega, by omega⟩ z) (fun _ z => ?_) (fun _ hn hno M2 mu => ?_)
        · rcases z with z | ⟨i, i0, i1, i2⟩
          · omega
          · rw [e2] at i2
            exact absurd i2 (hfree i i0 (by omega))
        · have pls := pl_s (D := M1) (t := t) (by omega)
          have vI : V60 (insD M1 t v) := by
            intro i i0 i1
            rw [insD_7] at i1
            rw [insD_3]
            unfold insR
            by_cases z : i < pl M1 t
            · rw [if_pos z]; exact I1.2 i i0 (by omega)
            · rw [if_neg z]
              by_cases y : i = pl M1 t
              · rw [if_pos y]; omega
              · rw [if_neg y]; exact I1.2 (i - 1) (by omega) (by omega)
          have I2 := Iv_mut I1.1 mu vI
          have e7 : M2 1 7 = M 1 7 + 1 := by rw [mu.2.2.1.1, insD_7, e17]
          refine q_point I2.1.1 I2.1.2.1 (Ask_r I2.1.2.2.1) (by omega) (by omega) (fun M3 a3 => ?_)
          have ep : M2 2 (pl M1 t) = t := by
            rw [(mu.2.2.1.2.2.2.2.1 (pl M1 t) pls.1 (by rw [insD_7]; omega)).1, insD_2]
            unfold insR
            rw [if_neg (by omega), if_pos rfl]
          rw [pq_0, ep]
          refine ⟨by unfold am_rg; omega, by unfold am_rg; omega, fun e => absurd rfl e, fun _ => q_count I2.1.1 I2.1.2.1 a3 (by omega) (fun M4 a4 => ?_)⟩
          rw [cq_0, e7]
          exact ⟨by unfold am_rg; omega, by unfold am_rg; omega, fun e => absurd rfl e, fun _ => hq M4 (Iv_ask I2 a4)⟩
      | succ r ih =>
        intro k v6 M1 hk h6 a1
        refine ⟨by unfold am_rg; omega, by unfold am_rg; omega, fun e => absurd e (by omega), fun _ => ⟨by unfold am_rg; omega, fun _ => ih (k + 1) 1 M1 (by omega) (Or.inl rfl) a1, fun e => ?_⟩⟩
        obtain ⟨-, h23, hfree⟩ := h6.resolve_left (fun z => e (by omega))
        refine q_point hd hs a1 (by omega) (by omega) (fun M2 a2 => ?_)
        rw [pq_0]
        have tk := h2d (k : Int) (by omega) (by omega)
        refine ⟨by unfold am_rg; omega, by unfold am_rg; omega, fun g => ih (k + 1) 0 M2 (by omega) (Or.inr ⟨rfl, h23, fun i i0 i1 => ?_⟩) a2, fun _ => ih (k + 1) 1 M2 (by omega) (Or.inl rfl) a2⟩
        by_cases z : i = (k : Int)
        · rw [z]; exact g
        · exact hfree i i0 (by omega)
    refine ⟨⟨r2, by unfold am_rg; omega, by omega⟩, by unfold am_rg; omega, fun e => ?_, fun e => ?_⟩
    · rw [← ht]; exact ⟨_, loop (M 1 7).toNat 0 0 M (by omega) (Or.inr ⟨rfl, e, fun i i0 i1 => by omega⟩) a0⟩
    · rw [← ht]; exact ⟨_, loop (M 1 7).toNat 0 1 M (by omega) (Or.inl rfl) a0⟩
  -- a setting
  have fset : ∀ (s v lo : Int), 0 ≤ s ∧ s < 3 → isv s v → am_rg v → lo ≤ M 6 s → am_rg lo → wp_X5_set s v M (fun x M4 => (am_rg x) ∧ (x < lo → Q 0 M4) ∧ (¬ x < lo → Q 1 M4)) X := by
    intro s v lo h hv rv hlo rlo
    refine dp_set hI.1 hc (by unfold am_rg; omega) rv (fun z => absurd h z) (fun _ z => absurd hv z) (fun _ _ M' mu => ⟨?_, fun e => absurd e (by omega), fun _ => hq M' (Iv_mut hI.1 mu (V60_up hV (by omega) (fun z => absurd z (by omega))))⟩)
    by_cases e0 : s = 0
    · rw [e0]; unfold am_rg; omega
    · by_cases e1 : s = 1
      · rw [e1]; unfold am_rg; omega
      · rw [show s = 2 by omega]; unfold am_rg; omega
  have fdef : (am_rg ((Int32.ofInt v2 &&& Int32.ofInt 3).toInt)) ∧ (¬ ((Int32.ofInt v2 &&& Int32.ofInt 3).toInt) = 0 → (am_rg ((Int32.ofInt v2 &&& Int32.ofInt 3).toInt)) ∧ (¬ ((Int32.ofInt v2 &&& Int32.ofInt 3).toInt) = 1 → (am_rg ((Int32.ofInt v2 >>> (Int32.ofInt 2 &&& 31)).toInt) ∧ am_rg 60 ∧ (0 : Int) < 60) ∧ (wp_X5_set 0 (Int.tmod ((Int32.ofInt v2 >>> (Int32.ofInt 2 &&& 31)).toInt) 60) M (fun x3 M4 => (am_rg x3) ∧ (x3 < 0 → Q 0 M4) ∧ (¬ x3 < 0 → Q 1 M4)) X)) ∧ (¬ (¬ ((Int32.ofInt v2 &&& Int32.ofInt 3).toInt) = 1) → wp_X5_set 2 ((Int32.ofInt ((Int32.ofInt v2 >>> (Int32.ofInt 2 &&& 31)).toInt) &&& Int32.ofInt 1).toInt) M (fun x5 M6 => (am_rg x5) ∧ (x5 < 0 → Q 0 M6) ∧ (¬ x5 < 0 → Q 1 M6)) X)) ∧ (¬ (¬ ((Int32.ofInt v2 &&& Int32.ofInt 3).toInt) = 0) → (am_rg ((Int32.ofInt v2 >>> (Int32.ofInt 2 &&& 31)).toInt) ∧ am_rg 60 ∧ (0 : Int) < 60) ∧ (wp_X5_set 1 (1 + (Int.tmod ((Int32.ofInt v2 >>> (Int32.ofInt 2 &&& 31)).toInt) 60)) M (fun x7 M8 => (am_rg x7) ∧ (x7 < 1 → Q 0 M8) ∧ (¬ x7 < 1 → Q 1 M8)) X)) := by
    have t60 := tm_b (sh_b r2 h2 2) (m := 60) (by omega)
    have m1 : 0 ≤ (Int32.ofInt ((Int32.ofInt v2 >>> (Int32.ofInt 2 &&& 31)).toInt) &&& Int32.ofInt 1).toInt ∧ (Int32.ofInt ((Int32.ofInt v2 >>> (Int32.ofInt 2 &&& 31)).toInt) &&& Int32.ofInt 1).toInt ≤ 1 := msk_b ((Int32.ofInt v2 >>> (Int32.ofInt 2 &&& 31)).toInt) 1 (by decide)
    have r60 : am_rg 60 := by unfold am_rg; omega
    refine ⟨i32_b _, fun _ => ⟨i32_b _, fun _ => ⟨⟨i32_b _, r60, by omega⟩, ?_⟩, fun _ => ?_⟩, fun _ => ⟨⟨i32_b _, r60, by omega⟩, ?_⟩⟩
    · exact fset 0 _ 0 (by omega) (Or.inl ⟨rfl, by omega, by omega⟩) (by unfold am_rg; omega) o1.1 (by unfold am_rg; omega)
    · exact fset 2 _ 0 (by omega) (Or.inr (Or.inr ⟨rfl, by have := m1.2; have := m1.1; omega⟩)) (i32_b _) (by omega) (by unfold am_rg; omega)
    · exact fset 1 _ 1 (by omega) (Or.inr (Or.inl ⟨rfl, by omega, by omega⟩)) (by unfold am_rg; omega) o2.1 (by unfold am_rg; omega)
  have m7 := msk_b v1 7 (by decide)
  refine ⟨i32_b _, fun _ => fdef, fun _ => f68, fun _ => f68, fun _ => f68, fun _ => ?_, fun _ => ?_, fun _ => ?_, fun _ => ?_⟩
  · -- dropped, or kept
    refine q_count hd hs a0 (by omega) (fun M1 a1 => ⟨by unfold am_rg; omega, fun _ => hq M1 (up M1 (Iv_ask hI a1)), fun e => ?_⟩)
    rw [cq_1]
    have hp := hs0 e
    have rkb := rk_b M s0
    refine q_whyNot hd hs a1 hp (fun M2 a2 => ⟨by unfold am_rg; omega, fun g => ?_, fun g => ?_⟩)
    · refine q_point hd hs a2 hp (by omega) (fun M3 a3 => ?_)
      rw [pq_2]
      have k01 := (h2d s0 hp.1 hp.2).2.2
      have F : Fr8 M M3 := Fc_f Fr8_r a3.1
      have e17 : M3 1 7 = M 1 7 := by rw [fr_1 F]
      have I3 := Iv_ask hI a3
      refine ⟨by unfold am_rg; omega, fun _ => hq M3 (up M3 I3), fun hk => ?_⟩
      refine dp_keep I3.1 hc (by unfold am_rg; omega) (fun z => absurd (by omega) z) (fun _ z => absurd (by rw [fr_4 F] at z; exact z) hk) (fun _ _ M4 mu => ?_)
      have I4 := Iv_mut I3.1 mu (V60_up I3.2 (by omega) (fun z => absurd z (by omega)))
      rw [kc_upI (by omega), e17, kc_fr F, fr_4 F]
      exact ⟨by unfold am_rg; omega, by unfold am_rg; omega, fun z => absurd (by omega) z, fun _ => hq M4 I4⟩
    · have hr : rk M s0 = 0 := by omega
      have F : Fr8 M M2 := Fc_f Fr8_r a2.1
      have e17 : M2 1 7 = M 1 7 := by rw [fr_1 F]
      have I2 := Iv_ask hI a2
      have hr2' : rk M2 s0 = 0 := by rw [rk_fr F]; exact hr
      have hk := (rk_0 hp hr).1
      refine dp_drop I2.1 hc (by unfold am_rg; omega) (fun z => absurd (by omega) z) (fun _ z => absurd hr2' z) (fun _ _ M3 mu => ?_)
      have I3 := Iv_mut I2.1 mu (V60_up I2.2 (by omega) (fun z => absurd z (by omega)))
      have e37 : M3 1 7 = M 1 7 := by rw [mu.2.2.1.1, am_up_r (by omega), e17]
      rw [kc_upI (by omega), e17, kc_fr F, fr_4 F, hk]
      refine ⟨by unfold am_rg; omega, by unfold am_rg; omega, fun z => absurd (by omega) z, fun _ => ?_⟩
      refine q_point I3.1.1 I3.1.2.1 (Ask_r I3.1.2.2.1) (by omega) (by omega) (fun M4 a4 => ?_)
      rw [pq_3, pi1_f (drop_ok I2.1.1 I2.1.2.1 I3.1.1 I3.1.2.1 (by omega) hr2' mu.2.2.1)]
      exact ⟨by unfold am_rg; omega, fun z => absurd rfl z, fun _ => hq M4 (Iv_ask I3 a4)⟩
  · -- thinned
    have tw := tm_b h2 (m := 3) (by omega)
    obtain ⟨w, hw⟩ : ∃ w, w = Int.tmod v2 3 := ⟨_, rfl⟩
    rw [← hw] at tw ⊢
    refine ⟨⟨r2, by unfold am_rg; omega, by omega⟩, q_ifThinned hd hs a0 (by omega) (fun M1 a1 => dp_thinD hI.1 a1 hc (by omega) (fun M2 mu => ?_))⟩
    have cb := chn_b hd w (M 6 0)
    have vI : V60 (thD M w) := by
      intro i i0 i1
      rw [thD_1 (by omega)] at i1
      rw [thD_k (by omega) (by omega)]
      exact hV i i0 i1
    have I2 := Iv_mut hI.1 mu vI
    have e27 : M2 1 7 = M 1 7 := by rw [mu.2.2.1.1, thD_1 (by omega)]
    have g : Rg M2 M := Rg_of mu.2.2.1 I2.1.2.1 hs (thD_1 (by omega)) (fun i _ _ => by rw [thD_k (by omega) (by omega), thD_k (by omega) (by omega)]; exact ⟨rfl, rfl⟩) (fun i _ _ => by rw [thD_k (by omega) (by omega)])
    have h4 : ∀ i, 0 ≤ i → i < M 1 7 → M2 4 i = cw M w (M 6 0) i := fun i i0 i1 => by
      rw [(mu.2.2.1.2.2.2.2.1 i i0 (by rw [thD_1 (by omega)]; exact i1)).2.2, thD_4]; rfl
    have e60 : M2 6 0 = M 6 0 := g.2.2 0 (by omega) (by omega)
    have ekc : kc M2 (M2 1 7).toNat = chn M w (M 6 0) := by
      rw [e27, kc_sm]
      exact sm_cg _ (fun i i0 i1 => h4 i i0 (by omega))
    refine ⟨by unfold am_rg; omega, by unfold am_rg; omega, fun z => absurd rfl z, fun _ => q_count I2.1.1 I2.1.2.1 (Ask_r I2.1.2.2.1) (by omega) (fun M3 a3 => ?_)⟩
    rw [cq_1, ekc]
    refine ⟨by unfold am_rg; omega, by unfold am_rg; omega, fun z => absurd rfl z, fun _ => q_count I2.1.1 I2.1.2.1 a3 (by omega) (fun M4 a4 => ?_)⟩
    rw [cq_2, bm_0 (no_bk I2.1.1 I2.1.2.1 hd hs g (by omega) e60.symm h4)]
    refine ⟨by unfold am_rg; omega, fun z => absurd rfl z, fun _ => q_ifThinned I2.1.1 I2.1.2.1 a4 (by omega) (fun M5 a5 => ?_)⟩
    have e2 : chn M2 2 (M2 6 0) = fwS M (M 6 0) := by
      rw [e60, chn_2 I2.1.1 I2.1.2.1 o1.1, fwS_rg g]
    have ge := chn_ge hd hs (w := w) (o := M 6 0) (by omega) o1.1
    have fb := fwS_b hd (M 6 0)
    rw [e2]
    exact ⟨by unfold am_rg; omega, by unfold am_rg; omega, fun z => absurd z (by omega), fun _ => hq M5 (Iv_ask I2 a5)⟩
  · -- corrected
    refine ⟨by unfold am_rg; omega, fun _ => hq M (up M hI), fun e => ⟨⟨i32_b _, by unfold am_rg; omega, by omega⟩, ?_⟩⟩
    have hp := hs0 e
    have tv := tm_b (sh_b r2 h2 6) (m := 121) (by omega)
    have vp := hV s0 hp.1 hp.2
    exact dp_correct hI.1 hc (by unfold am_rg; omega) (by unfold am_rg; omega) (fun z => absurd hp z) (fun _ z => absurd (by omega) z) (fun _ _ M' mu => ⟨by unfold am_rg; omega, fun z => absurd z (by omega), fun _ => hq M' (Iv_mut hI.1 mu (V60_up hV (by omega) (fun _ => by omega)))⟩)
  · -- mended
    refine q_count hd hs a0 (by omega) (fun M1 a1 => ?_)
    rw [cq_1]
    have F : Fr8 M M1 := Fc_f Fr8_r a1.1
    have e17 : M1 1 7 = M 1 7 := by rw [fr_1 F]
    have I1 := Iv_ask hI a1
    refine dp_mend I1.1 hc (fun m M2 no _ mu => ?_)
    have vI : V60 (mI M1 m) := by
      intro i i0 i1
      rw [mI_k (by omega)] at i1
      rw [mI_k (by omega)]
      exact I1.2 i i0 i1
    have I2 := Iv_mut I1.1 mu vI
    have em7 : mI M1 m 1 7 = M 1 7 := by rw [mI_k (by omega), e17]
    have e27 : M2 1 7 = M 1 7 := by rw [mu.2.2.1.1, em7]
    have hsm : OKs (mI M1 m) := OKs_sm I1.1.2.1 (mI_sm m)
    have g : Rg M2 (mI M1 m) := Rg_of mu.2.2.1 I2.1.2.1 hsm rfl (fun _ _ _ => ⟨rfl, rfl⟩) (fun _ _ _ => rfl)
    have h4 : ∀ i, 0 ≤ i → i < mI M1 m 1 7 → M2 4 i = mI M1 m 4 i := fun i i0 i1 => (mu.2.2.1.2.2.2.2.1 i i0 i1).2.2
    have ekc : kc M2 (M2 1 7).toNat = kc (mI M1 m) (M1 1 7).toNat := by
      rw [e27, e17]
      exact kc_in (fun i i0 i1 => h4 i i0 (by omega))
    have nb : ∀ p, 0 ≤ p → p < M2 1 7 → ¬ bk M2 p := fun p p0 p1 z => no p p0 (by omega) (bk_rg g h4 p0 (by omega) z)
    have k2 := kc_b I2.1.1 (M2 1 7).toNat (by omega)
    refine q_count I2.1.1 I2.1.2.1 (Ask_r I2.1.2.2.1) (by omega) (fun M3 a3 => ?_)
    rw [cq_1, ekc, e17, kc_fr F]
    rw [ekc, e17] at k2
    refine ⟨by unfold am_rg; omega, by unfold am_rg; omega, fun z => absurd rfl z, fun _ => q_count I2.1.1 I2.1.2.1 a3 (by omega) (fun M4 a4 => ?_)⟩
    rw [cq_2, bm_0 nb]
    exact ⟨by unfold am_rg; omega, fun z => absurd rfl z, fun _ => hq M4 (Iv_ask I2 a4)⟩
theorem lp_acts {M : am_M} {Q : Int → am_M → Prop} {X : am_X} {c x : Int} (hI : Iv c M) (hc : c + 1 ≤ 1000) (h0 : 0 ≤ x) (hx : am_rg x) (hq : ∀ M', Iv (c + 1) M' → Q 1 M') : wp_L_acts x M Q X := by
  have hI' := hI
  obtain ⟨⟨hd, hs, hN, -⟩, hV⟩ := hI'
  have n := hd.1
  have z0 := sh_b hx h0 3
  refine q_count hd hs (Ask_r hN) (by omega) (fun M1 a1 => ?_)
  rw [cq_0]
  have F : Fr8 M M1 := Fc_f Fr8_r a1.1
  have e17 : M1 1 7 = M 1 7 := by rw [fr_1 F]
  have I1 := Iv_ask hI a1
  refine ⟨by unfold am_rg; omega, fun e => ⟨⟨i32_b _, by unfold am_rg; omega, by omega⟩, ?_⟩, fun e => ?_⟩
  · have tp := tm_b z0 (m := M 1 7) (by omega)
    exact lp_acts21 I1 hc z0 (i32_b _) e17.symm (fun _ => tp) hq
  · exact lp_acts21 I1 hc z0 (i32_b _) e17.symm (fun z => absurd (by omega) z) hq
