/-! the law, from its first question on -/
theorem Cp_undo {c : Int} {M M' : am_M} (h : Cp c M) (f : ∀ k, (k = 0 ∨ 14 < k) → M' k = M k) (e1 : M' 14 1 = M 14 1) (e2 : M' 14 2 = M 14 2 - 1) (h1 : 1 ≤ M 14 2) (d : OKd c M') (s : OKs M') (v : NV M' M') : Cp c M' := by
  obtain ⟨-, -, -, r1, r2, ht⟩ := h
  refine ⟨d, s, v, by rw [e1]; exact r1, by omega, ?_⟩
  unfold OKt at ht ⊢
  rw [f 64 (by omega), f 65 (by omega)]
  exact ht
section LAW
variable {Q : Int → am_M → Prop} {X : am_X} {scr : Int × (Int → Int)} {cap b : Nat}
theorem ll_201 (hb : b ≤ cap) (hQ : ∀ M, Q 1 M) {M : am_M} {c v3 v4 : Int} (h : Cp c M) (h0 : M 1 7 = 0) (r3 : am_rg v3) (r4 : am_rg v4) (h34 : v3 ≤ v4) : wj_L_law_201 Q X scr cap b 1 v3 v4 M := by
  obtain ⟨hd, hs, hN, -⟩ := h
  refine ⟨by unfold am_rg; omega, fun e => absurd e (by omega), fun _ => ⟨hb, q_count hd hs (Ask_r hN) (by omega) (fun M1 a1 => ?_)⟩⟩
  rw [cq_0, h0]
  exact ⟨by unfold am_rg; omega, fun e => absurd rfl e, fun _ => ⟨r4, r3, fun e => absurd e (by omega), fun _ => hQ M1⟩⟩
theorem ll_150 (hb : b ≤ cap) (hQ : ∀ M, Q 1 M) {v3 : Int} (r3 : am_rg v3) : ∀ (r : Nat) (c : Int) (M : am_M), M 1 7 ≤ r → c + r ≤ 900 → Cp c M → v3 ≤ M 1 10 + M 1 7 → wl_L_law_150 Q X scr cap (r + 1) b 1 v3 (M 1 10) M
  | r, c, M, hr, hc, h, hv => by
    have h' := h
    obtain ⟨hd, hs, hN, -⟩ := h'
    have n := hd.1
    have n10 := hd.2.2.2.2.2.2.2.2.2.1
    have cc := hd.2.2.2.2.2.2.2.2.2.2
    have hcs := cs_b hd hs
    refine ⟨by unfold am_rg; omega, fun e => absurd e (by omega), fun _ => ⟨hb, q_count hd hs (Ask_r hN) (by omega) (fun M1 a1 => ?_)⟩⟩
    rw [cq_3]
    have h1 := Cp_ask h a1
    have F : Fr8 M M1 := Fc_f Fr8_r a1.1
    have e17 : M1 1 7 = M 1 7 := by rw [fr_1 F]
    refine ⟨by unfold am_rg; omega, fun e => ?_, fun e => ⟨hb, ?_⟩⟩
    · have z : M 1 7 = 0 := by
        refine Classical.byContradiction (fun y => ?_)
        have := (OKs_b hs (i := M 1 7 - 1) (by omega) (by omega)).1
        unfold cs at e
        rw [if_neg y] at e
        omega
      exact ll_201 hb hQ h1 (by omega) r3 (by unfold am_rg; omega) (by omega)
    · obtain ⟨g, g1, g2, -, -, g5, g6, -⟩ := sI_s hd hs (sI_0 n.1 hs) (k := 0) (by omega)
      refine q_stretch hd hs a1 (by omega) (by omega) (fun M2 a2 => ⟨hb, ?_⟩)
      rw [sq_1]
      have h2 := Cp_ask h a2
      have F2 : Fr8 M M2 := Fc_f Fr8_r a2.1
      have e27 : M2 1 = M 1 := fr_1 F2
      have ecs : cs M2 = cs M := by unfold cs; rw [e27, fr_5 F2]
      refine dp_tear h2 (by omega) (by unfold am_rg; omega) (fun z => absurd (by rw [ecs]; omega) z) (fun _ M3 mu => ?_)
      rw [so_fr F2] at mu ⊢
      have h3 := Cp_mut h2 mu
      have e37 : M3 1 7 = M 1 7 - so M 0 := by rw [mu.2.2.1.1, cutD_7, e27]
      have e310 : M3 1 10 = M 1 10 + so M 0 := by rw [mu.2.2.1.2.2.2.1, cutD_10, e27]
      refine ⟨by unfold am_rg; omega, fun z => absurd z (by omega), fun _ => ⟨hb, q_count h3.1 h3.2.1 (Ask_r h3.2.2.1) (by omega) (fun M4 a4 => ?_)⟩⟩
      rw [cq_8, e310]
      have h4 := Cp_ask h3 a4
      have F4 : Fr8 M3 M4 := Fc_f Fr8_r a4.1
      have e41 : M4 1 = M3 1 := fr_1 F4
      refine ⟨by unfold am_rg; omega, by unfold am_rg; omega, fun z => absurd rfl z, fun _ => ?_⟩
      match r, hr, hc with
      | 0, hr, hc => omega
      | r + 1, hr, hc =>
        have := ll_150 hb hQ r3 r (c + 1) M4 (by rw [e41]; omega) (by omega) h4 (by rw [e41]; omega)
        rw [e41, e310] at this
        exact this
theorem ll_87 (hb : b ≤ cap) (hQ : ∀ M, Q 1 M) {M : am_M} {c : Int} (h : Cp c M) (hc : c ≤ 100) : wj_L_law_87 Q X scr cap b 1 M := by
  have h' := h
  obtain ⟨hd, hs, hN, -⟩ := h'
  have n := hd.1
  have n10 := hd.2.2.2.2.2.2.2.2.2.1
  have cc := hd.2.2.2.2.2.2.2.2.2.2
  have hd' := hd
  obtain ⟨-, -, -, o1, -⟩ := hd'
  refine ⟨hb, q_count hd hs (Ask_r hN) (by omega) (fun M1 a1 => ⟨hb, q_count hd hs a1 (by omega) (fun M2 a2 => ?_)⟩)⟩
  rw [cq_0, cq_8]
  have h2 := Cp_ask h a2
  have F2 : Fr8 M M2 := Fc_f Fr8_r a2.1
  refine ⟨by unfold am_rg; omega, fun e => absurd e (by omega), fun _ => ⟨hb, dp_set h2 (by omega) (by unfold am_rg; omega) (by unfold am_rg; omega) (fun z => absurd (by omega) z) (fun _ z => absurd (Or.inl ⟨rfl, by omega, by omega⟩) z) (fun _ _ M3 mu => ?_)⟩⟩
  rw [fr_6 F2]
  have h3 := Cp_mut h2 mu
  have e36 : M3 6 0 = 7 := by rw [mu.2.2.1.2.2.2.2.2.1 0 (by omega) (by omega), am_up_s]
  have e37 : M3 1 7 = M 1 7 := by rw [mu.2.2.1.1, am_up_r (by omega), fr_1 F2]
  have e310 : M3 1 10 = M 1 10 := by rw [mu.2.2.1.2.2.2.1, am_up_r (by omega), fr_1 F2]
  refine ⟨by unfold am_rg; omega, fun e => absurd e (by omega), fun _ => ⟨hb, dp_set h3 (by omega) (by unfold am_rg; omega) (by unfold am_rg; omega) (fun z => absurd (by omega) z) (fun _ z => absurd (Or.inl ⟨rfl, by omega, by omega⟩) z) (fun _ _ M4 mv => ?_)⟩⟩
  rw [e36]
  have h4 := Cp_mut h3 mv
  have hp := mv.2.1
  have e42 : 1 ≤ M4 14 2 := by
    rw [hp.2.1]
    have := h3.2.2.2.2.1
    split <;> omega
  have deq := hp.2.2.1
  refine ⟨by unfold am_rg; omega, fun e => absurd rfl e, fun _ => ⟨hb, dp_undo h4 (fun _ => OKd_c (OKd_eq h3.1 (EQD_s deq)) (by omega) (by omega)) (fun z => absurd z (by omega)) (fun _ M5 f e1 e2 en d s v => ?_)⟩⟩
  have h5 := Cp_undo h4 f e1 e2 e42 d s v
  have e57 : M5 1 7 = M 1 7 := by rw [en.1, deq.1, e37]
  have e510 : M5 1 10 = M 1 10 := by rw [en.2.2.2.1, deq.2.2.2.1, e310]
  have e56 : M5 6 0 = 7 := by rw [en.2.2.2.2.2.1 0 (by omega) (by omega), deq.2.2.2.2.2.1 0 (by omega) (by omega), e36]
  have r2 := h4.2.2.2.2.1
  refine ⟨by unfold am_rg; omega, fun z => absurd z (by omega), fun _ => ⟨hb, q_setting (Ask_r h5.2.2.1) (by omega) ?_⟩⟩
  rw [e56]
  refine ⟨by unfold am_rg; omega, fun z => absurd rfl z, fun _ => ⟨60 + 1, ?_⟩⟩
  have := ll_150 (Q := Q) (X := X) (scr := scr) (b := b) hb hQ (v3 := M 1 7) (by unfold am_rg; omega) 60 (c + 1 + 1) M5 (by omega) (by omega) h5 (by omega)
  rw [e510] at this
  exact this
theorem ll_46 (hb : b ≤ cap) (hQ : ∀ M, Q 1 M) : ∀ (r k : Nat) (M : am_M), k + r = 44 → Iv ((k : Int) + 2) M → wl_L_law_46 Q X scr cap (r + 1) b 1 (k : Int) M := by
  intro r
  induction r with
  | zero =>
    intro k M hk hI
    exact ⟨by unfold am_rg; omega, fun _ => ll_87 hb hQ hI.1 (by omega), fun e => absurd (by omega) e⟩
  | succ r ih =>
    intro k M hk hI
    obtain ⟨c0, c1⟩ := ce_b scr.1 scr.2 (k : Int)
    refine ⟨by unfold am_rg; omega, fun e => absurd e (by omega), fun _ => ⟨by unfold am_rg; omega, fun e => absurd e (by omega), fun _ => ⟨by unfold am_rg; omega, by omega, hb, ?_⟩⟩⟩
    refine lp_acts hI (by omega) c0 (by unfold am_rg; omega) (fun M1 I1 => ⟨by unfold am_rg; omega, fun e => absurd e (by omega), fun _ => ⟨hb, ?_⟩⟩)
    refine lp_sound I1.1.1 I1.1.2.1 I1.1.2.2.1 (fun M2 a2 => ⟨by unfold am_rg; omega, fun e => absurd e (by omega), fun _ => ?_⟩)
    refine ih (k + 1) M2 (by omega) ?_
    rw [show ((k + 1 : Nat) : Int) + 2 = (k : Int) + 2 + 1 by omega]
    exact Iv_ask I1 a2
theorem ll_8 (hb : b ≤ cap) (hQ : ∀ M, Q 1 M) {M : am_M} (hI : Iv 0 M) (h0 : M 1 7 = 0) : wj_L_law_8 Q X scr cap b M := by
  refine ⟨hb, lp_sound hI.1.1 hI.1.2.1 hI.1.2.2.1 (fun M1 a1 => ⟨by unfold am_rg; omega, fun e => absurd e (by omega), fun _ => ⟨hb, ?_⟩⟩)⟩
  have I1 := Iv_ask hI a1
  have F : Fr8 M M1 := Fc_f Fr8_r a1.1
  have e17 : M1 1 7 = 0 := by rw [fr_1 F]; exact h0
  refine dp_mend I1.1 (by omega) (fun m M2 _ _ mu => ?_)
  have e27 : M2 1 7 = 0 := by rw [mu.2.2.1.1, mI_k (by omega), e17]
  have z0 : ∀ A : am_M, A 1 7 = 0 → V60 A := fun A h i i0 i1 => by omega
  have I2 : Iv (0 + 1) M2 := ⟨Cp_mut I1.1 mu, z0 M2 e27⟩
  rw [e17]
  have ez : kc (mI M1 m) (0 : Int).toNat - kc M1 (0 : Int).toNat = 0 := rfl
  rw [ez]
  refine ⟨by unfold am_rg; omega, fun e => absurd rfl e, fun _ => ⟨hb, dp_thinD I2.1 (Ask_r I2.1.2.2.1) (by omega) (by omega) (fun M3 mv => ?_)⟩⟩
  have e37 : M3 1 7 = 0 := by rw [mv.2.2.1.1, thD_1 (by omega), e27]
  have I3 : Iv (0 + 1 + 1) M3 := ⟨Cp_mut I2.1 mv, z0 M3 e37⟩
  have ec : chn M2 2 (M2 6 0) = 0 := by unfold chn; rw [e27]; rfl
  rw [ec]
  refine ⟨by unfold am_rg; omega, fun e => absurd rfl e, fun _ => ⟨hb, q_leastOath I3.1.1 I3.1.2.1 (Ask_r I3.1.2.2.1) (by omega) (fun M4 a4 => ?_)⟩⟩
  have el : lo M3 0 = 0 := by
    refine lo_u (by omega) (by omega) (fun x x0 x1 => by omega) ?_
    unfold fwS
    rw [e37]
    exact Int.le_refl _
  rw [el]
  refine ⟨by unfold am_rg; omega, fun e => absurd rfl e, fun _ => ⟨_, ll_46 hb hQ 44 0 M4 (by omega) ?_⟩⟩
  exact Iv_ask I3 a4
end LAW
/-- the first memory -/
def M0 : am_M := fun a j => match a with
  | 6 => if j = 0 then 10 else if j = 1 then 100 else 0
  | 21 => if j = 0 then 10 else if j = 1 then 100 else 0
  | 29 => if j = 0 then 10 else if j = 1 then 100 else 0
  | 37 => if j = 0 then 10 else if j = 1 then 100 else 0
  | 45 => if j = 0 then 10 else if j = 1 then 100 else 0
  | 53 => if j = 0 then 10 else if j = 1 then 100 else 0
  | 61 => if j = 0 then 10 else if j = 1 then 100 else 0
  | _ => 0
theorem Iv_0 : Iv 0 M0 := by
  have n7 : M0 1 7 = 0 := rfl
  have n8 : M0 1 8 = 0 := rfl
  have n14 : M0 14 2 = 0 := rfl
  have n64 : M0 64 1 = 0 := rfl
  refine ⟨⟨?_, ?_, Or.inl rfl, ⟨by decide, by decide⟩, ⟨by decide, by decide⟩, ⟨by decide, by decide⟩, fun i h0 h1 => absurd h1 (by rw [n64]; omega)⟩, fun i h0 h1 => absurd h1 (by rw [n7]; omega)⟩
  · refine ⟨⟨by decide, by decide⟩, fun i h0 h1 => absurd h1 (by rw [n7]; omega), fun i j h0 h1 h2 => absurd h2 (by rw [n7]; omega), ⟨by decide, by decide⟩, ⟨by decide, by decide⟩, Or.inl rfl, ⟨by decide, by decide⟩, fun k h0 h1 => absurd h1 (by rw [n8]; omega), ⟨by decide, by decide⟩, ⟨by decide, by decide⟩, by decide, by decide⟩
  · intro i h
    rw [n7] at h
    omega
theorem law_0 {Q : Int → am_M → Prop} {X : am_X} {scr : Int × (Int → Int)} (hQ : ∀ M, Q 1 M) : wj_L_law_8 Q X scr 0 0 M0 := ll_8 (Nat.le_refl _) hQ Iv_0 rfl
