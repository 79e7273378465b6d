/-! the same questions, that change nothing but the reference's scratch slots -/
def Fz (M M' : am_M) : Prop := (∀ k, k ≠ 69 → M' k = M k) ∧ (∀ j, (j < 9 ∨ 12 < j) → M' 69 j = M 69 j)
theorem Fz_r {M : am_M} : Fz M M := ⟨fun _ _ => rfl, fun _ _ => rfl⟩
theorem Fz_t {A B C : am_M} (h : Fz A B) (g : Fz B C) : Fz A C := ⟨fun k k1 => (g.1 k k1).trans (h.1 k k1), fun j hj => (g.2 j hj).trans (h.2 j hj)⟩
theorem Fz_u {A B : am_M} {j x : Int} (h : Fz A B) (hj : 9 ≤ j ∧ j ≤ 12) : Fz A (am_up B 69 j x) := ⟨fun k k1 => by rw [am_up_r k1]; exact h.1 k k1, fun i hi => by rw [am_up_n (by omega)]; exact h.2 i hi⟩
theorem Fz_m {A B D : am_M} (hm : Mqr (A 70) D) (h : Fz A B) : Mqr (B 70) D := by rw [h.1 70 (by omega)]; exact hm
theorem Fz_q {A B : am_M} (h : Fz A B) : Fq A B := ⟨fun k k1 _ => h.1 k k1, h.2⟩
theorem zp_around {t : Int} {D M : am_M} {Q : am_M → Prop} {c : Int} (hd : OKd c D) (hm : Mqr (M 70) D) (ht : am_rg t) (hq : ∀ M', Fz M M' → M' 69 9 = ra D t → M' 69 10 = rb D t → Q M') : wp_X6_around t M Q := by
  have n1 := hd.1
  have loop : ∀ (r k : Nat) (M1 : am_M), (k : Int) + r = D 1 7 → Fz M M1 → M1 69 9 = ak D t k → M1 69 10 = bh D t k → wl_X6_around_12 Q (r + 1) t (k : Int) M1 := by
    intro r
    induction r with
    | zero =>
      intro k M1 hk f a b
      have hm1 := Fz_m hm f
      rw [wl_X6_around_12, hm1.1]
      refine ⟨by unfold am_rg; omega, by unfold am_rg; omega, fun _ => hq M1 f ?_ ?_, fun e => absurd e (by omega)⟩
      · rw [a, show k = (D 1 7).toNat by omega]; exact ak_e hd t
      · rw [b, show k = (D 1 7).toNat by omega]; exact bh_e hd t
    | succ r ih =>
      intro k M1 hk f a b
      have hm1 := Fz_m hm f
      have hp : 0 ≤ (k : Int) ∧ (k : Int) < D 1 7 := ⟨by omega, by omega⟩
      have tk := OKd_t hd hp.1 hp.2
      have bb := bh_s D t k
      have ea : ak D t (k + 1) = if D 4 (k : Int) = 1 ∧ D 2 (k : Int) < t then (k : Int) else ak D t k := rfl
      have eb : bh D t (k + 1) = if D 4 (k : Int) = 1 ∧ t < D 2 (k : Int) ∧ bh D t k < 0 then (k : Int) else bh D t k := rfl
      have J : ∀ s0, s0 = ak D t (k + 1) → wj_X6_around_48 Q (wl_X6_around_12 Q (r + 1)) t (k : Int) s0 M1 := by
        intro s0 hs0
        have f2 : Fz M (am_up M1 69 9 s0) := Fz_u f (by omega)
        have hm2 := Fz_m hm f2
        have b2 : am_up M1 69 9 s0 69 10 = bh D t k := by rw [am_up_n (by omega)]; exact b
        have a2 : am_up M1 69 9 s0 69 9 = ak D t (k + 1) := by rw [am_up_s]; exact hs0
        have same : bh D t (k + 1) = bh D t k → wl_X6_around_12 Q (r + 1) t ((k : Int) + 1) (am_up (am_up M1 69 9 s0) 69 10 (am_up M1 69 9 s0 69 10)) := by
          intro e
          refine ih (k + 1) _ (by omega) (Fz_u f2 (by omega)) (by rw [am_up_n (by omega)]; exact a2) (by rw [am_up_s, b2, e])
        refine mp_isKept hd hm2 hp (fun y => ⟨by unfold am_rg; omega, fun e => absurd e (by omega), fun _ => mp_time hd hm2 hp ⟨by unfold am_rg; omega, ht, fun e => same ?_, fun e => ?_⟩⟩) (fun y => ⟨by unfold am_rg; omega, fun _ => same ?_, fun e => absurd rfl e⟩)
        · rw [eb, if_neg (by omega)]
        · rw [b2]
          refine ⟨by unfold am_rg; omega, fun e2 => ?_, fun e2 => ?_⟩
          · have := same (by rw [eb, if_neg (by omega)])
            rw [b2] at this
            exact this
          · refine ih (k + 1) _ (by omega) (Fz_u f2 (by omega)) (by rw [am_up_n (by omega)]; exact a2) ?_
            rw [am_up_s, eb, if_pos ⟨y, by omega, by omega⟩]
        · rw [eb, if_neg (fun z => y z.1)]
      rw [wl_X6_around_12, hm1.1]
      refine ⟨by unfold am_rg; omega, by unfold am_rg; omega, fun e => absurd e (by omega), fun _ => ?_⟩
      refine mp_isKept hd hm1 hp (fun y => ⟨by unfold am_rg; omega, fun e => absurd e (by omega), fun _ => mp_time hd hm1 hp ⟨by unfold am_rg; omega, ht, fun e => J _ ?_, fun e => J _ ?_⟩⟩) (fun y => ⟨by unfold am_rg; omega, fun _ => J _ ?_, fun e => absurd rfl e⟩)
      · rw [ea, if_neg (by omega)]; exact a
      · rw [ea, if_pos ⟨y, by omega⟩]
      · rw [ea, if_neg (fun z => y z.1)]; exact a
  exact ⟨_, loop (D 1 7).toNat 0 _ (by omega) (Fz_u (Fz_u Fz_r (by omega)) (by omega)) (by rw [am_up_n (by omega), am_up_s]; rfl) (by rw [am_up_s]; rfl)⟩
theorem zp_read {t : Int} {D M : am_M} {Q : am_M → Prop} {c : Int} (hd : OKd c D) (hs : OKs D) (hm : Mqr (M 70) D) (ht : 0 ≤ t ∧ t ≤ 9999) (hq : ∀ M', Fz M M' → M' 69 12 = rdb D t → (rdb D t ≠ 0 → M' 69 11 = rdt D t) → Q M') : wp_X6_read t M Q := by
  have n1 := hd.1
  have hpl := pl_s (D := D) (t := t) n1.1
  have ha := ra_s (D := D) (t := t) n1.1
  have hc := rc_s (D := D) (t := t) n1.1
  refine mp_keptAt hd hm (by unfold am_rg; omega) (fun z => ?_) (fun z => ?_)
  · refine zp_around hd hm (by unfold am_rg; omega) (fun M1 f1 a1 b1 => ⟨by unfold am_rg; omega, fun e => absurd e (by omega), fun _ => ?_⟩)
    have f2 : Fz M (am_up M1 69 12 0) := Fz_u f1 (by omega)
    refine mp_value hd (Fz_m hm f2) ⟨hpl.1, z.1.1⟩ (hq _ (Fz_u (Fz_u f2 (by omega)) (by omega)) ?_ (fun _ => ?_))
    · rw [am_up_s]; unfold rdb; rw [if_pos z]
    · rw [am_up_n (by omega), am_up_s]; unfold rdt; rw [if_pos z]
  · refine zp_around hd hm (by unfold am_rg; omega) (fun M1 f1 a1 b1 => ⟨by unfold am_rg; omega, fun _ => ?_, fun e => absurd (by omega) e⟩)
    have f2 : Fz M (am_up M1 69 12 0) := Fz_u f1 (by omega)
    have hm2 := Fz_m hm f2
    have a2 : am_up M1 69 12 0 69 9 = ra D t := by rw [am_up_n (by omega)]; exact a1
    have b2 : am_up M1 69 12 0 69 10 = rc D t := by rw [am_up_n (by omega), b1]; exact (rc_rb hd z).symm
    have eb : rdb D t = if ra D t ≠ -1 ∧ rc D t ≠ -1 ∧ D 5 (ra D t) = D 5 (rc D t) then sp_span D (ra D t) (rc D t) else 0 := by unfold rdb; rw [if_neg z]
    have et : rdt D t = if ra D t ≠ -1 ∧ rc D t ≠ -1 ∧ D 5 (ra D t) = D 5 (rc D t) then D 3 (ra D t) * sp_span D (ra D t) (rc D t) + sp_rise D (ra D t) (rc D t) * (t - D 2 (ra D t)) else 0 := by unfold rdt; rw [if_neg z]
    have none : ¬ (ra D t ≠ -1 ∧ rc D t ≠ -1 ∧ D 5 (ra D t) = D 5 (rc D t)) → Q (am_up M1 69 12 0) := fun y => hq _ f2 (by rw [am_up_s, eb, if_neg y]) (fun y2 => absurd (by rw [eb, if_neg y]) y2)
    rw [a2, b2]
    refine ⟨by unfold am_rg; omega, fun e => none (by omega), fun e => ⟨by unfold am_rg; omega, fun e2 => none (by omega), fun e2 => ?_⟩⟩
    have pa : 0 ≤ ra D t ∧ ra D t < D 1 7 := ⟨by omega, by omega⟩
    have pc : 0 ≤ rc D t ∧ rc D t < D 1 7 := ⟨by omega, by omega⟩
    have s1 := OKs_b hs pa.1 pa.2
    have s2 := OKs_b hs pc.1 pc.2
    refine mp_stretchOf hd hs hm2 pa ?_
    rw [b2]
    refine mp_stretchOf hd hs hm2 pc ⟨by unfold am_rg; omega, by unfold am_rg; omega, fun y => none (fun w => y w.2.2), fun y => ?_⟩
    have yes : ra D t ≠ -1 ∧ rc D t ≠ -1 ∧ D 5 (ra D t) = D 5 (rc D t) := ⟨by omega, by omega, by omega⟩
    rw [a2, b2]
    refine mp_above hd hm2 pa pc ?_
    have f3 : Fz M (am_up (am_up M1 69 12 0) 69 11 (av D (ra D t) (rc D t) t)) := Fz_u f2 (by omega)
    have x9 : am_up (am_up M1 69 12 0) 69 11 (av D (ra D t) (rc D t) t) 69 9 = ra D t := by rw [am_up_n (by omega)]; exact a2
    have x10 : am_up (am_up M1 69 12 0) 69 11 (av D (ra D t) (rc D t) t) 69 10 = rc D t := by rw [am_up_n (by omega)]; exact b2
    rw [x9, x10]
    refine mp_below hd (Fz_m hm f3) pa pc (hq _ (Fz_u f3 (by omega)) ?_ (fun _ => ?_))
    · rw [am_up_s, eb, if_pos yes]
    · rw [am_up_n (by omega), am_up_s, et, if_pos yes]; rfl
theorem zp_farFrom {t v : Int} {D M : am_M} {Q : Int → am_M → Prop} {c : Int} (hd : OKd c D) (hs : OKs D) (hm : Mqr (M 70) D) (ht : 0 ≤ t ∧ t ≤ 9999) (hv : -999 ≤ v ∧ v ≤ 999) (hq : ∀ M', Fz M M' → M' 69 12 = rdb D t → Q (ff D t v) M') : wp_X6_farFrom t v M Q := by
  have hb := rd_b hd ht
  have hf := ff_b hd ht hv
  refine zp_read hd hs hm ht (fun M1 f1 a1 b1 => ?_)
  have H := hq M1 f1 a1
  unfold ff at H
  rw [a1]
  refine ⟨by unfold am_rg; omega, fun e => ?_, fun e => ?_⟩
  · rw [if_neg e] at H
    rw [b1 e]
    exact mp_size (by unfold am_rg; omega) H
  · rw [if_pos (by omega)] at H
    exact H
theorem zp_isTrue {t v : Int} {D M : am_M} {Q : Int → am_M → Prop} {c : Int} (hd : OKd c D) (hs : OKs D) (hm : Mqr (M 70) D) (ht : 0 ≤ t ∧ t ≤ 9999) (hv : -999 ≤ v ∧ v ≤ 999) (hq : ∀ M', Fz M M' → Q (pi1 (tn D t v)) M') : wp_X6_isTrue t v M Q := by
  have hb := rd_b hd ht
  have ho := hd.2.2.2.1
  have hf := ff_b hd ht hv
  have p := sp_pb (x := D 6 0) (y := rdb D t) (a := 500) (b := 9999) (by omega) (by omega)
  refine zp_farFrom hd hs hm ht hv (fun M1 f1 a1 => ?_)
  have H := hq M1 f1
  have hm1 := Fz_m hm f1
  have ef : ff D t v = if rdb D t = 0 then -1 else ab (v * rdb D t - rdt D t) := rfl
  have hab : 0 ≤ ab (v * rdb D t - rdt D t) := by unfold ab; split <;> omega
  rw [a1, hm1.2.2.2.2.1]
  refine ⟨by unfold am_rg; omega, fun e => ?_, fun e => ⟨by unfold am_rg; omega, by unfold am_rg; omega, fun e2 => ?_, fun e2 => ?_⟩⟩
  · have z : rdb D t = 0 := by
      by_cases y : rdb D t = 0
      · exact y
      · rw [if_neg y] at ef; omega
    rw [pi1_f (fun w => w.1 z)] at H
    exact H
  · have z : rdb D t ≠ 0 := fun y => by rw [if_pos y] at ef; omega
    rw [if_neg z] at ef
    rw [pi1_f (fun w => by have := w.2; omega)] at H
    exact H
  · have z : rdb D t ≠ 0 := fun y => by rw [if_pos y] at ef; omega
    rw [if_neg z] at ef
    rw [pi1_t ⟨z, by omega⟩] at H
    exact H
theorem zp_isBroken {p : Int} {D M : am_M} {Q : Int → am_M → Prop} {c : Int} (hd : OKd c D) (hs : OKs D) (hm : Mqr (M 70) D) (hp : 0 ≤ p ∧ p < D 1 7) (hq : ∀ M', Fz M M' → Q (pi1 (bk D p)) M') : wp_X6_isBroken p M Q := by
  refine mp_isKept hd hm hp (fun y => ⟨by unfold am_rg; omega, fun _ => ?_, fun e => absurd (by omega) e⟩) (fun y => ⟨by unfold am_rg; omega, fun e => absurd rfl e, fun _ => ?_⟩)
  · have H := hq M Fz_r
    rw [pi1_f (fun z => z.1 y)] at H
    exact H
  · refine mp_time hd hm hp (mp_value hd hm hp (zp_isTrue hd hs hm (OKd_t hd hp.1 hp.2) (OKd_v hd hp.1 hp.2) (fun M1 f1 => ?_)))
    have H := hq M1 f1
    have hb := bk_tn hd hs hp y
    by_cases z : tn D (D 2 p) (D 3 p)
    · rw [pi1_t z]
      rw [pi1_f (fun w => (hb.mp w) z)] at H
      exact ⟨by unfold am_rg; omega, fun _ => H, fun e => absurd (by omega) e⟩
    · rw [pi1_f z]
      rw [pi1_t (hb.mpr z)] at H
      exact ⟨by unfold am_rg; omega, fun e => absurd rfl e, fun _ => H⟩
theorem so_l {c : Int} {D : am_M} (hd : OKd c D) (hs : OKs D) {s l : Int} (h : 0 ≤ s ∧ s < cs D) (l0 : fo D s ≤ l) (l1 : l < D 1 7) (l5 : D 5 l = D 5 (fo D s)) (le : es D l) : so D s = l + 1 - fo D s := by
  obtain ⟨f0, f1, f2, f3, -⟩ := fo_in hd hs h
  have hb : bs D (fo D s) := by
    unfold bs
    by_cases z : fo D s = 0
    · exact Or.inl z
    · exact Or.inr (fun y => f3 (fo D s - 1) (by omega) (by omega) (by omega))
  have := st_sum hs f0 l0 l1 l5 hb le (fun _ => 1)
  rw [f2] at this
  have e : so D s = sm (fun i => if D 5 i = s then 1 else 0) (D 1 7).toNat := rfl
  rw [e, this, sm_one]
  omega
theorem Fmu_70 {A B C : am_M} (h : Fmu A B) (f : ∀ k, k ≠ 70 → C k = B k) : Fmu A C := ⟨fun k a b d e => (f k b).trans (h.1 k a b d e), fun j a b d => by rw [f 69 (by omega)]; exact h.2 j a b d⟩
theorem HPm_70 {A B C : am_M} (h : HPm A B) (f : ∀ k, k ≠ 70 → C k = B k) : HPm A C := HPm_t h rfl rfl rfl (by rw [f 69 (by omega)]) (f 71 (by omega))
theorem mp_thin {w : Int} {D M : am_M} {Q : Int → am_M → Prop} {c : Int} (hd : OKd c D) (hs : OKs D) (hm : Mqr (M 70) D) (h2 : 0 ≤ M 69 2 ∧ M 69 2 ≤ 6) (rw' : am_rg w)
    (x1 : ¬ (0 ≤ w ∧ w ≤ 2) → Rf M Q 1) (hq : 0 ≤ w ∧ w ≤ 2 → Rm M (thD D w) Q (chn D w (D 6 0))) : wp_X6_thin w M Q := by
  have hm0 := Fp_hm hm
  have n1 := hd.1
  have h8 := hd.2.2.2.2.2.2.1
  refine mp_in rw' (by unfold am_rg; omega) (by unfold am_rg; omega) (fun h => ⟨by unfold am_rg; omega, fun _ => ?_, fun e => absurd (by omega) e⟩) (fun h => ⟨by unfold am_rg; omega, fun e => absurd rfl e, fun _ => Rf_a (x1 h) Fq_r⟩)
  refine mp_saved' Fq_r h2 (fun M1 g1 g2 hp1 e5 => ?_)
  have hm1 : Mqr (M1 70) D := by rw [g1 70 (by omega) (by omega)]; exact hm0
  refine mp_choose hd hs hm1 h (fun M2 f2 c2 => ?_)
  have hm2 := Fq_m hm1 f2
  have loop : ∀ (r k : Nat) (M3 : am_M), (k : Int) + r = D 1 7 → (∀ j, j ≠ 70 → M3 j = M2 j) → (∀ j, (j < 127 ∨ 187 ≤ j) → M3 70 j = M2 70 j) → (∀ i, 0 ≤ i → i < (k : Int) → M3 70 (127 + i) = pi1 (CH D w (D 6 0) i)) → wl_X6_thin_32 Q (r + 1) (chn D w (D 6 0)) (k : Int) M3 := by
    intro r
    induction r with
    | zero =>
      intro k M3 hk f g a
      have e0 : M3 70 0 = D 1 7 := by rw [g 0 (by omega)]; exact hm2.1
      rw [wl_X6_thin_32, e0]
      refine ⟨by unfold am_rg; omega, by unfold am_rg; omega, fun _ => ?_, fun e => absurd (by omega) e⟩
      have fm : Fmu M M3 := Fmu_70 (Fmu_q (Fmu_s Fq_r g1 g2) f2) f
      refine hq h _ (Fmu_u fm) (HPm_u (HPm_70 (HPm_q hp1 f2) f)) ?_ (by rw [am_up_r (by omega), f 69 (by omega), f2.2 5 (by omega)]; exact e5)
      rw [up70]
      obtain ⟨y1, y2, y3, y4, y5, y6, y7, y8, y9⟩ := hm2
      unfold Mqr
      rw [thD_9, thD_1 (by omega), thD_1 (by omega), thD_1 (by omega), thD_k (k := 2) (by omega) (by omega), thD_k (k := 3) (by omega) (by omega), thD_k (k := 6) (by omega) (by omega), thD_k (k := 7) (by omega) (by omega), thD_k (k := 8) (by omega) (by omega)]
      simp (disch := omega) only [upR_n, upR_s]
      refine ⟨e0, (g 1 (by omega)).trans y2, by rw [g 2 (by omega), y3], (g 3 (by omega)).trans y4, (g 4 (by omega)).trans y5, (g 5 (by omega)).trans y6, (g 6 (by omega)).trans y7, fun i i0 i1 => ?_, fun j j0 j1 => ?_⟩
      · simp (disch := omega) only [upR_n]
        rw [g (7 + i) (by omega), g (67 + i) (by omega), a i i0 (by omega), thD_4]
        exact ⟨(y8 i i0 i1).1, (y8 i i0 i1).2.1, rfl⟩
      · simp (disch := omega) only [upR_n]
        rw [g (187 + 2 * j) (by omega), g (187 + 2 * j + 1) (by omega)]
        exact y9 j j0 j1
    | succ r ih =>
      intro k M3 hk f g a
      have e0 : M3 70 0 = D 1 7 := by rw [g 0 (by omega)]; exact hm2.1
      have e75 : M3 75 (k : Int) = pi1 (CH D w (D 6 0) (k : Int)) := by rw [f 75 (by omega)]; exact c2 _ (by omega) (by omega)
      rw [wl_X6_thin_32, e0, e75]
      refine ⟨by unfold am_rg; omega, by unfold am_rg; omega, fun e => absurd e (by omega), fun _ => ⟨by omega, by omega, ?_⟩⟩
      refine ih (k + 1) _ (by omega) (fun j hj => by rw [am_up_r hj]; exact f j hj) (fun j hj => by rw [am_up_n (by omega)]; exact g j hj) (fun i i0 i1 => ?_)
      by_cases z : i = (k : Int)
      · rw [z, am_up_s]
      · rw [am_up_n (by omega)]; exact a i i0 (by omega)
  exact ⟨_, loop (D 1 7).toNat 0 M2 (by omega) (fun _ _ => rfl) (fun _ _ => rfl) (fun i i0 i1 => by omega)⟩
theorem or01 {x y : Int} (hx : x = 0 ∨ x = 1) (hy : y = 0 ∨ y = 1) : (Int32.ofInt x ||| Int32.ofInt y).toInt = if y = 1 then 1 else x := by
  rcases hx with e | e <;> rcases hy with f | f <;> subst e <;> subst f <;> decide
theorem mp_mend {m : Nat} {D M : am_M} {Q : Int → am_M → Prop} {c : Int} (hd : OKd c D) (hs : OKs D) (hm : Mqr (M 70) D) (h2 : 0 ≤ M 69 2 ∧ M 69 2 ≤ 6) (no : ∀ p, 0 ≤ p → p < D 1 7 → ¬ bk (mI D m) p) (ex : ∀ j, j < m → ∃ p, 0 ≤ p ∧ p < D 1 7 ∧ bk (mI D j) p)
    (hq : Rm M (mI D m) Q (kc (mI D m) (D 1 7).toNat - kc D (D 1 7).toNat)) : wp_X6_mend M Q := by
  have hm0 := Fp_hm hm
  have n1 := hd.1
  have h8 := hd.2.2.2.2.2.2.1
  refine mp_saved' Fq_r h2 (fun M1 g1 g2 hp1 e5 => ?_)
  have hm1 : Mqr (M1 70) D := by rw [g1 70 (by omega) (by omega)]; exact hm0
  have fm1 : Fmu M M1 := Fmu_s Fq_r g1 g2
  refine mp_keptMany hd hm1 ?_
  -- one round
  have orl : ∀ (E : am_M) (k16 : Int → Int → am_M → Prop) (v1 v2 : Int) (M2 : am_M), OKd c E → E 1 7 = D 1 7 → E 1 8 = D 1 8 → Mqr (M2 70) E → (∀ i, 0 ≤ i → i < D 1 7 → M2 75 i = pi1 (bk E i)) → (∀ M3, (∀ k, k ≠ 70 → M3 k = M2 k) → Mqr (M3 70) (mdD E) → k16 v1 v2 M3) → ∀ (r k : Nat) (M3 : am_M), (k : Int) + r = D 1 7 → (∀ j, j ≠ 70 → M3 j = M2 j) → (∀ j, (j < 127 ∨ 187 ≤ j) → M3 70 j = M2 70 j) → (∀ i, 0 ≤ i → i < (k : Int) → M3 70 (127 + i) = mdD E 4 i) → (∀ i, (k : Int) ≤ i → i < D 1 7 → M3 70 (127 + i) = E 4 i) → wl_X6_mend_81 Q k16 (r + 1) v1 v2 (k : Int) M3 := by
    intro E k16 v1 v2 M2 hE e7 e8 hmE c2 hk r
    induction r with
    | zero =>
      intro k M3 hkr f g a b
      have e0 : M3 70 0 = D 1 7 := by rw [g 0 (by omega), hmE.1, e7]
      rw [wl_X6_mend_81, e0]
      refine ⟨by unfold am_rg; omega, by unfold am_rg; omega, fun _ => hk M3 f ?_, fun e => absurd (by omega) e⟩
      obtain ⟨y1, y2, y3, y4, y5, y6, y7, y8, y9⟩ := hmE
      unfold Mqr
      rw [mdD_k (k := 1) (by omega), mdD_k (k := 2) (by omega), mdD_k (k := 3) (by omega), mdD_k (k := 6) (by omega), mdD_k (k := 7) (by omega), mdD_k (k := 8) (by omega)]
      refine ⟨(g 0 (by omega)).trans y1, (g 1 (by omega)).trans y2, (g 2 (by omega)).trans y3, (g 3 (by omega)).trans y4, (g 4 (by omega)).trans y5, (g 5 (by omega)).trans y6, (g 6 (by omega)).trans y7, fun i i0 i1 => ?_, fun j j0 j1 => ?_⟩
      · rw [g (7 + i) (by omega), g (67 + i) (by omega), a i i0 (by omega)]
        exact ⟨(y8 i i0 i1).1, (y8 i i0 i1).2.1, rfl⟩
      · rw [g (187 + 2 * j) (by omega), g (187 + 2 * j + 1) (by omega)]
        exact y9 j j0 j1
    | succ r ih =>
      intro k M3 hkr f g a b
      have e0 : M3 70 0 = D 1 7 := by rw [g 0 (by omega), hmE.1, e7]
      have e75 : M3 75 (k : Int) = pi1 (bk E (k : Int)) := by rw [f 75 (by omega)]; exact c2 _ (by omega) (by omega)
      have e4 := b (k : Int) (Int.le_refl _) (by omega)
      have k4 := OKd_k hE (i := (k : Int)) (by omega) (by omega)
      have p1 := pi1_b (bk E (k : Int))
      rw [wl_X6_mend_81, e0, e75, e4, or01 k4 p1]
      refine ⟨by unfold am_rg; omega, by unfold am_rg; omega, fun e => absurd e (by omega), fun _ => ⟨by omega, by omega, by omega, ?_⟩⟩
      refine ih (k + 1) _ (by omega) (fun j hj => by rw [am_up_r hj]; exact f j hj) (fun j hj => by rw [am_up_n (by omega)]; exact g j hj) (fun i i0 i1 => ?_) (fun i i0 i1 => by rw [am_up_n (by omega)]; exact b i (by omega) i1)
      by_cases z : i = (k : Int)
      · rw [z, am_up_s]
        by_cases y : bk E (k : Int)
        · rw [mdD_b ⟨by omega, by omega⟩ y, pi1_t y, if_pos rfl]
        · rw [mdD_n y, pi1_f y, if_neg (by omega)]
      · rw [am_up_n (by omega)]; exact a i i0 (by omega)
  have round : ∀ (E : am_M) (k16 : Int → Int → am_M → Prop) (v1 : Int) (M2 : am_M), OKd c E → OKs E → E 1 7 = D 1 7 → E 1 8 = D 1 8 → Mqr (M2 70) E → (∀ v2 M3 M4, Fq M2 M3 → (∀ k, k ≠ 70 → M4 k = M3 k) → Mqr (M4 70) (mdD E) → ((v2 = 0 ∧ ∀ i, 0 ≤ i → i < D 1 7 → ¬ bk E i) ∨ (v2 = 1 ∧ ∃ i, 0 ≤ i ∧ i < D 1 7 ∧ bk E i)) → k16 v1 v2 M4) → ∀ (r k : Nat) (v2 : Int) (M3 : am_M), (k : Int) + r = D 1 7 → Fq M2 M3 → (∀ i, 0 ≤ i → i < (k : Int) → M3 75 i = pi1 (bk E i)) → ((v2 = 0 ∧ ∀ i, 0 ≤ i → i < (k : Int) → ¬ bk E i) ∨ (v2 = 1 ∧ ∃ i, 0 ≤ i ∧ i < (k : Int) ∧ bk E i)) → wl_X6_mend_24 Q k16 (r + 1) v1 v2 (k : Int) M3 := by
    intro E k16 v1 M2 hE hsE e7 e8 hmE hk r
    induction r with
    | zero =>
      intro k v2 M3 hkr f a inv
      have hm3 := Fq_m hmE f
      rw [wl_X6_mend_24, hm3.1, e7]
      refine ⟨by unfold am_rg; omega, by unfold am_rg; omega, fun _ => ⟨_, orl E k16 v1 v2 M3 hE e7 e8 hm3 (fun i i0 i1 => a i i0 (by omega)) (fun M4 f4 m4 => hk v2 M3 M4 f f4 m4 ?_) (D 1 7).toNat 0 M3 (by omega) (fun _ _ => rfl) (fun _ _ => rfl) (fun i i0 i1 => by omega) (fun i i0 i1 => (hm3.2.2.2.2.2.2.2.1 i (by omega) (by omega)).2.2)⟩, fun e => absurd (by omega) e⟩
      rcases inv with ⟨z, y⟩ | ⟨z, i, i0, i1, y⟩
      · exact Or.inl ⟨z, fun i i0 i1 => y i i0 (by omega)⟩
      · exact Or.inr ⟨z, i, i0, by omega, y⟩
    | succ r ih =>
      intro k v2 M3 hkr f a inv
      have hm3 := Fq_m hmE f
      rw [wl_X6_mend_24, hm3.1, e7]
      refine ⟨by unfold am_rg; omega, by unfold am_rg; omega, fun e => absurd e (by omega), fun _ => zp_isBroken hE hsE hm3 ⟨by omega, by omega⟩ (fun M4 f4 => ?_)⟩
      have f4' := Fq_t f (Fz_q f4)
      have step : ∀ s0, s0 = pi1 (bk E (k : Int)) → (∀ i, 0 ≤ i → i < (k : Int) → M4 75 i = pi1 (bk E i)) → wj_X6_mend_52 Q k16 (wl_X6_mend_24 Q k16 (r + 1)) v1 v2 (k : Int) s0 (k : Int) M4 := by
        intro s0 hs0 a4
        have f5 : Fq M2 (am_up M4 75 (k : Int) s0) := Fq_w f4' (by omega)
        have a5 : ∀ i, 0 ≤ i → i < ((k + 1 : Nat) : Int) → am_up M4 75 (k : Int) s0 75 i = pi1 (bk E i) := by
          intro i i0 i1
          by_cases z : i = (k : Int)
          · rw [z, am_up_s]; exact hs0
          · rw [am_up_n z]; exact a4 i i0 (by omega)
        have go : ∀ v, ((v = 0 ∧ ∀ i, 0 ≤ i → i < ((k + 1 : Nat) : Int) → ¬ bk E i) ∨ (v = 1 ∧ ∃ i, 0 ≤ i ∧ i < ((k + 1 : Nat) : Int) ∧ bk E i)) → wl_X6_mend_24 Q k16 (r + 1) v1 v ((k : Int) + 1) (am_up M4 75 (k : Int) s0) := fun v hv => ih (k + 1) v _ (by omega) f5 a5 hv
        have p1 := pi1_b (bk E (k : Int))
        refine ⟨by omega, by unfold am_rg; rcases inv with ⟨z, -⟩ | ⟨z, -⟩ <;> omega, fun e => ?_, fun e => ⟨by omega, ?_⟩⟩
        · rcases inv with ⟨z, -⟩ | ⟨z, i, i0, i1, y⟩
          · exact absurd z e
          · exact go 1 (Or.inr ⟨rfl, i, i0, by omega, y⟩)
        · rcases inv with ⟨z, y⟩ | ⟨z, -⟩
          · rw [am_up_s]
            refine ⟨by unfold am_rg; omega, fun e2 => go 0 (Or.inl ⟨rfl, fun i i0 i1 => ?_⟩), fun e2 => go 1 (Or.inr ⟨rfl, (k : Int), by omega, by omega, pi1_1.mp (by omega)⟩)⟩
            by_cases x : i = (k : Int)
            · rw [x]; exact fun w => e2 (by rw [hs0, pi1_t w])
            · exact y i i0 (by omega)
          · omega
      have a4 : ∀ i, 0 ≤ i → i < (k : Int) → M4 75 i = pi1 (bk E i) := fun i i0 i1 => by
        rw [f4.1 75 (by omega)]; exact a i i0 i1
      rcases pi1_b (bk E (k : Int)) with z | z
      · rw [z]; exact ⟨by unfold am_rg; omega, fun _ => step 0 z.symm a4, fun e => absurd rfl e⟩
      · rw [z]; exact ⟨by unfold am_rg; omega, fun e => absurd e (by omega), fun _ => step 1 z.symm a4⟩
  have main : ∀ (r j : Nat) (M2 : am_M), j + r = m → Fmu M M2 → HPm M M2 → M2 69 5 = 0 → Mqr (M2 70) (mI D j) → wl_X6_mend_16 Q (r + 1 + 1) (kc D (D 1 7).toNat) 1 M2 := by
    intro r
    induction r with
    | zero =>
      intro j M2 hj fm hp z5 hmE
      have ej : j = m := by omega
      subst ej
      have e7 := (mI_sm (D := D) j).1
      have e8 : mI D j 1 8 = D 1 8 := by rw [mI_k (by omega)]
      refine ⟨by unfold am_rg; omega, fun e => absurd e (by omega), fun _ => ⟨_, round (mI D j) _ _ M2 (mI_d hd j) (OKs_sm hs (mI_sm j)) e7 e8 hmE (fun v2 M3 M4 f3 f4 m4 inv => ?_) (D 1 7).toNat 0 0 M2 (by omega) Fq_r (fun i i0 i1 => by omega) (Or.inl ⟨rfl, fun i i0 i1 => by omega⟩)⟩⟩
      have ev : v2 = 0 := by
        rcases inv with ⟨z, -⟩ | ⟨-, i, i0, i1, y⟩
        · exact z
        · exact absurd y (no i i0 i1)
      rw [mdD_id (fun p p0 p1 => no p p0 (by omega))] at m4
      refine ⟨by unfold am_rg; omega, fun _ => mp_keptMany (mI_d hd j) m4 ?_, fun e => absurd ev e⟩
      rw [e7]
      exact hq M4 (Fmu_70 (Fmu_q fm f3) f4) (HPm_70 (HPm_q hp f3) f4) m4 (by rw [f4 69 (by omega), f3.2 5 (by omega)]; exact z5)
    | succ r ih =>
      intro j M2 hj fm hp z5 hmE
      have e7 := (mI_sm (D := D) j).1
      have e8 : mI D j 1 8 = D 1 8 := by rw [mI_k (by omega)]
      refine ⟨by unfold am_rg; omega, fun e => absurd e (by omega), fun _ => ⟨_, round (mI D j) _ _ M2 (mI_d hd j) (OKs_sm hs (mI_sm j)) e7 e8 hmE (fun v2 M3 M4 f3 f4 m4 inv => ?_) (D 1 7).toNat 0 0 M2 (by omega) Fq_r (fun i i0 i1 => by omega) (Or.inl ⟨rfl, fun i i0 i1 => by omega⟩)⟩⟩
      have ev : v2 = 1 := by
        rcases inv with ⟨-, y⟩ | ⟨z, -⟩
        · obtain ⟨p, p0, p1, p2⟩ := ex j (by omega)
          exact absurd p2 (y p p0 p1)
        · exact z
      rw [ev]
      exact ih (j + 1) M4 (by omega) (Fmu_70 (Fmu_q fm f3) f4) (HPm_70 (HPm_q hp f3) f4) (by rw [f4 69 (by omega), f3.2 5 (by omega)]; exact z5) m4
  exact ⟨_, main m 0 M1 (by omega) fm1 hp1 e5 hm1⟩
theorem mp_tear {s : Int} {D M : am_M} {Q : Int → am_M → Prop} {c : Int} (hd : OKd c D) (hs : OKs D) (hm : Mqr (M 70) D) (h2 : 0 ≤ M 69 2 ∧ M 69 2 ≤ 6) (rs : am_rg s)
    (x1 : ¬ (0 ≤ s ∧ s < cs D) → Rf M Q 1) (hq : 0 ≤ s ∧ s < cs D → Rm M (cutD D (fo D s) (so D s)) Q (so D s)) : wp_X6_tear s M Q := by
  have hm0 := Fp_hm hm
  have n1 := hd.1
  have h8 := hd.2.2.2.2.2.2.1
  have hc := cs_b hd hs
  refine mp_stretches hd hs hm0 (mp_in rs (by unfold am_rg; omega) (by unfold am_rg; omega) (fun h' => ⟨by unfold am_rg; omega, fun _ => ?_, fun e => absurd (by omega) e⟩) (fun h' => ⟨by unfold am_rg; omega, fun e => absurd rfl e, fun _ => Rf_a (x1 (by omega)) Fq_r⟩))
  have h : 0 ≤ s ∧ s < cs D := by omega
  obtain ⟨f0, f1, f2, f3, -⟩ := fo_in hd hs h
  refine mp_saved' Fq_r h2 (fun M1 g1 g2 hp1 e5 => ?_)
  have hm1 : Mqr (M1 70) D := by rw [g1 70 (by omega) (by omega)]; exact hm0
  refine mp_firstOf hd hs hm1 h (mp_lastWith hd hs hm1 ⟨f0, f1⟩ (fun l l0 l1 l5 le => ?_))
  have es := so_l hd hs h l0 l1 l5 le
  rw [← es]
  have hsl : fo D s + so D s ≤ D 1 7 := by omega
  have hs1 : 1 ≤ so D s := by omega
  have Hq := hq h
  generalize so D s = n at *
  generalize fo D s = f at *
  have loop : ∀ (r : Nat) (p : Int) (M3 : am_M), f ≤ p → p + n + r = D 1 7 → (∀ j, j ≠ 70 → M3 j = M1 j) → (∀ j, (j < 7 ∨ 187 ≤ j) → M3 70 j = M1 70 j) → (∀ i, 0 ≤ i → i < p → M3 70 (7 + i) = cutR (D 2) f n i ∧ M3 70 (67 + i) = cutR (D 3) f n i ∧ M3 70 (127 + i) = cutR (D 4) f n i) → (∀ i, p ≤ i → i < D 1 7 → M3 70 (7 + i) = D 2 i ∧ M3 70 (67 + i) = D 3 i ∧ M3 70 (127 + i) = D 4 i) → wl_X6_tear_48 Q (r + 1) n p M3 := by
    intro r
    induction r with
    | zero =>
      intro p M3 hp hr fr g a b
      have e0 : M3 70 0 = D 1 7 := by rw [g 0 (by omega)]; exact hm1.1
      have e3 : am_up M3 70 0 (D 1 7 - n) 70 3 = D 1 10 := by rw [am_up_n (by omega), g 3 (by omega)]; exact hm1.2.2.2.1
      rw [wl_X6_tear_48, e0, e3]
      refine ⟨by unfold am_rg; omega, by unfold am_rg; omega, fun _ => ?_, fun e => absurd (by omega) e⟩
      refine Hq _ (Fmu_u (Fmu_u (Fmu_70 (Fmu_s Fq_r g1 g2) fr))) (HPm_u (HPm_u (HPm_70 hp1 fr))) ?_ (by rw [am_up_r (by omega), am_up_r (by omega), fr 69 (by omega)]; exact e5)
      rw [up70, up70]
      obtain ⟨y1, y2, y3, y4, y5, y6, y7, y8, y9⟩ := hm1
      unfold Mqr
      rw [cutD_p (Or.inl rfl), cutD_p (k := 3) (by omega), cutD_p (k := 4) (by omega), cutD_7, cutD_1 (by omega) (by omega), cutD_1 (by omega) (by omega), cutD_10, cutD_k (k := 6) (by omega), cutD_k (k := 7) (by omega), cutD_k (k := 8) (by omega)]
      simp (disch := omega) only [upR_n, upR_s]
      refine ⟨trivial, (g 1 (by omega)).trans y2, (g 2 (by omega)).trans y3, trivial, (g 4 (by omega)).trans y5, (g 5 (by omega)).trans y6, (g 6 (by omega)).trans y7, fun i i0 i1 => ?_, fun j j0 j1 => ?_⟩
      · simp (disch := omega) only [upR_n]
        exact a i i0 (by omega)
      · simp (disch := omega) only [upR_n]
        rw [g (187 + 2 * j) (by omega), g (187 + 2 * j + 1) (by omega)]
        exact y9 j j0 j1
    | succ r ih =>
      intro p M3 hp hr fr g a b
      have e0 : M3 70 0 = D 1 7 := by rw [g 0 (by omega)]; exact hm1.1
      obtain ⟨b1, b2, b3⟩ := b (p + n) (by omega) (by omega)
      rw [show 7 + (p + n) = 7 + p + n by omega] at b1
      rw [show 67 + (p + n) = 67 + p + n by omega] at b2
      rw [show 127 + (p + n) = 127 + p + n by omega] at b3
      rw [wl_X6_tear_48, e0]
      refine ⟨by unfold am_rg; omega, by unfold am_rg; omega, fun e => absurd e (by omega), fun _ => ⟨by omega, by omega, by omega, by omega, by omega, by omega, ?_⟩⟩
      refine ih (p + 1) _ (by omega) (by omega) (fun k hk => by simp (disch := omega) only [am_up_r]; exact fr k hk) (fun j hj => by simp (disch := omega) only [am_up_n]; exact g j hj) (fun i i0 i1 => ?_) (fun i i0 i1 => by simp (disch := omega) only [am_up_n]; exact b i (by omega) i1)
      by_cases z : i = p
      · rw [z]
        simp (disch := omega) only [am_up_n, am_up_s]
        unfold cutR
        rw [if_neg (by omega), if_neg (by omega), if_neg (by omega)]
        exact ⟨b1, b2, b3⟩
      · simp (disch := omega) only [am_up_n]
        exact a i i0 (by omega)
  refine ⟨_, loop (D 1 7 - (f + n)).toNat f M1 (Int.le_refl _) (by omega) (fun _ _ => rfl) (fun _ _ => rfl) (fun i i0 i1 => ?_) (fun i i0 i1 => hm1.2.2.2.2.2.2.2.1 i (by omega) i1)⟩
  unfold cutR
  rw [if_pos i1, if_pos i1, if_pos i1]
  exact hm1.2.2.2.2.2.2.2.1 i i0 (by omega)
noncomputable def sk2 (D : am_M) (k : Nat) : am_M := fun c j => if c = 7 then (stN D k).2.1 j else if c = 8 then (stN D k).2.2 j else D c j
theorem sk2_7 {D : am_M} {k : Nat} : sk2 D k 7 = (stN D k).2.1 := by funext j; unfold sk2; rw [if_pos rfl]
theorem sk2_8 {D : am_M} {k : Nat} : sk2 D k 8 = (stN D k).2.2 := by funext j; unfold sk2; rw [if_neg (by omega), if_pos rfl]
theorem sk2_k {D : am_M} {k c : Nat} (h7 : c ≠ 7) (h8 : c ≠ 8) : sk2 D k c = D c := by funext j; unfold sk2; rw [if_neg h7, if_neg h8]
theorem sk2_s4 {D : am_M} {k : Nat} : S4 D (sk2 D k) := ⟨by rw [sk2_k (by omega) (by omega)], sk2_k (by omega) (by omega), sk2_k (by omega) (by omega), sk2_k (by omega) (by omega), sk2_k (by omega) (by omega), sk2_k (by omega) (by omega)⟩
theorem OKd_sk2 {c : Int} {D : am_M} (hd : OKd c D) {k : Nat} (hk : (k : Int) ≤ D 1 8) : OKd c (sk2 D k) := by
  obtain ⟨b1, b2, b3⟩ := stN_b hd k hk
  obtain ⟨h1, h2, h3, h4, h5, h6, h7, h8, h9, h10, h11⟩ := hd
  unfold OKd
  rw [sk2_7, sk2_8, sk2_k (c := 1) (by omega) (by omega), sk2_k (c := 2) (by omega) (by omega), sk2_k (c := 3) (by omega) (by omega), sk2_k (c := 4) (by omega) (by omega), sk2_k (c := 6) (by omega) (by omega)]
  exact ⟨h1, h2, h3, h4, h5, h6, h7, b3, h9, h10, h11⟩
theorem mp_strike {D M : am_M} {Q : Int → am_M → Prop} {c : Int} (hd : OKd c D) (hs : OKs D) (hm : Mqr (M 70) D) (h2 : 0 ≤ M 69 2 ∧ M 69 2 ≤ 6) (hq : Rm M (skD D) Q (stN D (D 1 8).toNat).1) : wp_X6_strike M Q := by
  have hm0 := Fp_hm hm
  have n1 := hd.1
  have h8 := hd.2.2.2.2.2.2.1
  refine mp_saved' Fq_r h2 (fun M1 g1 g2 hp1 e5 => ?_)
  have hm1 : Mqr (M1 70) D := by rw [g1 70 (by omega) (by omega)]; exact hm0
  have fm1 : Fmu M M1 := Fmu_s Fq_r g1 g2
  have loop : ∀ (r k : Nat) (M2 : am_M), (k : Int) + r = D 1 8 → Fmu M M2 → HPm M M2 → M2 69 5 = 0 → Mqr (M2 70) (sk2 D k) → wl_X6_strike_13 Q (r + 1) (stN D k).1 (k : Int) M2 := by
    intro r
    induction r with
    | zero =>
      intro k M2 hk fm hp z5 m2
      have e1 : M2 70 1 = D 1 8 := by rw [m2.2.1, sk2_k (by omega) (by omega)]
      rw [wl_X6_strike_13, e1]
      refine ⟨by unfold am_rg; omega, by unfold am_rg; omega, fun _ => ?_, fun e => absurd (by omega) e⟩
      have ek : k = (D 1 8).toNat := by omega
      subst ek
      have b := (stN_b hd (D 1 8).toNat (by omega)).1
      refine hq _ (Fmu_u fm) (HPm_u hp) ?_ (by rw [am_up_r (by omega)]; exact z5)
      rw [up70]
      obtain ⟨y1, y2, y3, y4, y5, y6, y7, y8, y9⟩ := m2
      rw [sk2_k (c := 1) (by omega) (by omega)] at y1 y2 y3 y4 y8 y9
      rw [sk2_k (c := 6) (by omega) (by omega)] at y5 y6 y7
      rw [sk2_k (c := 2) (by omega) (by omega), sk2_k (c := 3) (by omega) (by omega), sk2_k (c := 4) (by omega) (by omega)] at y8
      rw [sk2_7, sk2_8] at y9
      unfold Mqr
      rw [skD_7, skD_8, skD_18, skD_1 (by omega), skD_1 (by omega), skD_1 (by omega), skD_k (k := 2) (by omega) (by omega) (by omega), skD_k (k := 3) (by omega) (by omega) (by omega), skD_k (k := 4) (by omega) (by omega) (by omega), skD_k (k := 6) (by omega) (by omega) (by omega)]
      simp (disch := omega) only [upR_n, upR_s]
      refine ⟨y1, trivial, y3, y4, y5, y6, y7, fun i i0 i1 => ?_, fun j j0 j1 => ?_⟩
      · simp (disch := omega) only [upR_n]
        exact y8 i i0 i1
      · simp (disch := omega) only [upR_n]
        exact y9 j j0 (by omega)
    | succ r ih =>
      intro k M2 hk fm hp z5 m2
      have e1 : M2 70 1 = D 1 8 := by rw [m2.2.1, sk2_k (by omega) (by omega)]
      obtain ⟨b1, b2, b3⟩ := stN_b hd k (by omega)
      have okd := OKd_sk2 hd (k := k) (by omega)
      have es : stN D (k + 1) = if pi1 (tn D (D 7 (k : Int)) (D 8 (k : Int))) = 1 then stN D k else ((stN D k).1 + 1, upR (stN D k).2.1 (stN D k).1 (D 7 (k : Int)), upR (stN D k).2.2 (stN D k).1 (D 8 (k : Int))) := rfl
      have k7 : sk2 D k 7 (k : Int) = D 7 (k : Int) := by rw [sk2_7]; exact (b2 k (by omega)).1
      have k8 : sk2 D k 8 (k : Int) = D 8 (k : Int) := by rw [sk2_8]; exact (b2 k (by omega)).2
      rw [wl_X6_strike_13, e1]
      refine ⟨by unfold am_rg; omega, by unfold am_rg; omega, fun e => absurd e (by omega), fun _ => ?_⟩
      refine mp_isTrueNote okd (OKs_sm hs (S4_sm sk2_s4)) m2 ⟨by omega, by rw [sk2_k (by omega) (by omega)]; omega⟩ (fun M3 f3 => ?_)
      have m3 := Fq_m m2 f3
      have z5' : M3 69 5 = 0 := by rw [f3.2 5 (by omega)]; exact z5
      have et : pi1 (tn (sk2 D k) (sk2 D k 7 (k : Int)) (sk2 D k 8 (k : Int))) = pi1 (tn D (D 7 (k : Int)) (D 8 (k : Int))) := by
        rw [k7, k8]; exact pi1_c (tn_s4 sk2_s4 _ _)
      rw [et]
      have nk := m3.2.2.2.2.2.2.2.2 (k : Int) (by omega) (by rw [sk2_k (by omega) (by omega)]; omega)
      rw [k7, k8] at nk
      rcases pi1_b (tn D (D 7 (k : Int)) (D 8 (k : Int))) with z | z
      · rw [z]
        refine ⟨by unfold am_rg; omega, fun e => absurd rfl e, fun _ => ⟨by omega, by omega, by omega, by omega, ?_⟩⟩
        have h := ih (k + 1) (am_up (am_up M3 70 (187 + 2 * (stN D k).1) (M3 70 (187 + 2 * (k : Int)))) 70 (187 + 2 * (stN D k).1 + 1) (am_up M3 70 (187 + 2 * (stN D k).1) (M3 70 (187 + 2 * (k : Int))) 70 (187 + 2 * (k : Int) + 1))) (by omega) (Fmu_u (Fmu_u (Fmu_q fm f3))) (HPm_u (HPm_u (HPm_q hp f3))) (by rw [am_up_r (by omega), am_up_r (by omega)]; exact z5') ?_
        · rw [es, if_neg (by omega)] at h
          exact h
        · have ev : am_up M3 70 (187 + 2 * (stN D k).1) (M3 70 (187 + 2 * (k : Int))) 70 (187 + 2 * (k : Int) + 1) = D 8 (k : Int) := by rw [am_up_n (by omega)]; exact nk.2
          rw [ev, nk.1, up70, up70]
          obtain ⟨y1, y2, y3, y4, y5, y6, y7, y8, y9⟩ := m3
          rw [sk2_k (c := 1) (by omega) (by omega)] at y1 y2 y3 y4 y8 y9
          rw [sk2_k (c := 6) (by omega) (by omega)] at y5 y6 y7
          rw [sk2_k (c := 2) (by omega) (by omega), sk2_k (c := 3) (by omega) (by omega), sk2_k (c := 4) (by omega) (by omega)] at y8
          rw [sk2_7, sk2_8] at y9
          unfold Mqr
          rw [sk2_7, sk2_8, es, if_neg (by omega), sk2_k (c := 1) (by omega) (by omega), sk2_k (c := 2) (by omega) (by omega), sk2_k (c := 3) (by omega) (by omega), sk2_k (c := 4) (by omega) (by omega), sk2_k (c := 6) (by omega) (by omega)]
          simp (disch := omega) only [upR_n]
          refine ⟨y1, y2, y3, y4, y5, y6, y7, fun i i0 i1 => ?_, fun j j0 j1 => ?_⟩
          · simp (disch := omega) only [upR_n]
            exact y8 i i0 i1
          · by_cases x : j = (stN D k).1
            · rw [x]
              simp (disch := omega) only [upR_n, upR_s]
              exact ⟨trivial, trivial⟩
            · simp (disch := omega) only [upR_n]
              exact y9 j j0 j1
      · rw [z]
        refine ⟨by unfold am_rg; omega, fun _ => ?_, fun e => absurd (by omega) e⟩
        have h := ih (k + 1) M3 (by omega) (Fmu_q fm f3) (HPm_q hp f3) z5' (by
          have e2 : sk2 D (k + 1) = sk2 D k := by unfold sk2; rw [es, if_pos z]
          rw [e2]; exact m3)
        rw [es, if_pos z] at h
        exact h
  exact ⟨_, loop (D 1 8).toNat 0 M1 (by omega) fm1 hp1 e5 (by
    have e2 : sk2 D 0 = D := by
      funext c j
      unfold sk2
      by_cases z : c = 7
      · rw [if_pos z, z]; rfl
      · rw [if_neg z]
        by_cases y : c = 8
        · rw [if_pos y, y]; rfl
        · rw [if_neg y]
    rw [e2]; exact hm1)⟩
theorem Mqr_cg {q q' : Int → Int} {D : am_M} (h : Mqr q D) (n7 : D 1 7 ≤ 60) (n8 : D 1 8 ≤ 8) (e : ∀ k, 0 ≤ k → k < 203 → q' k = q k) : Mqr q' D := by
  obtain ⟨y1, y2, y3, y4, y5, y6, y7, y8, y9⟩ := h
  unfold Mqr
  rw [e 0 (by omega) (by omega), e 1 (by omega) (by omega), e 2 (by omega) (by omega), e 3 (by omega) (by omega), e 4 (by omega) (by omega), e 5 (by omega) (by omega), e 6 (by omega) (by omega)]
  refine ⟨y1, y2, y3, y4, y5, y6, y7, fun i i0 i1 => ?_, fun k k0 k1 => ?_⟩
  · rw [e (7 + i) (by omega) (by omega), e (67 + i) (by omega) (by omega), e (127 + i) (by omega) (by omega)]
    exact y8 i i0 i1
  · rw [e (187 + 2 * k) (by omega) (by omega), e (187 + 2 * k + 1) (by omega) (by omega)]
    exact y9 k k0 k1
theorem mp_undo {M : am_M} {Q : Int → am_M → Prop} (h2 : 0 ≤ M 69 2 ∧ M 69 2 ≤ 6) (x1 : M 69 2 = 0 → Rf M Q 1)
    (hq : 1 ≤ M 69 2 → ∀ M', (∀ k, k ≠ 69 → k ≠ 70 → M' k = M k) → (∀ j, j ≠ 2 → j ≠ 5 → M' 69 j = M 69 j) → M' 69 2 = M 69 2 - 1 → (∀ k, 0 ≤ k → k < 203 → M' 70 k = M 71 (203 * (M 69 2 - 1) + k)) → M' 69 5 = 0 → Q (M 69 2 - 1) M') : wp_X6_undo M Q := by
  have e2 : am_up M 69 5 0 69 2 = M 69 2 := am_up_n (by omega)
  unfold wp_X6_undo
  rw [e2]
  refine ⟨by unfold am_rg; omega, fun e => ?_, fun e => Rf_a (x1 (by omega)) Fq_r⟩
  obtain ⟨M0, hM0⟩ : ∃ M0, M0 = am_up (am_up M 69 5 0) 69 2 (M 69 2 - 1) := ⟨_, rfl⟩
  rw [← hM0]
  have a2 : M0 69 2 = M 69 2 - 1 := by rw [hM0, am_up_s]
  have a5 : M0 69 5 = 0 := by rw [hM0, am_up_n (by omega), am_up_s]
  have aj : ∀ j, j ≠ 2 → j ≠ 5 → M0 69 j = M 69 j := fun j x y => by rw [hM0, am_up_n x, am_up_n y]
  have ak' : ∀ k, k ≠ 69 → M0 k = M k := fun k x => by rw [hM0, am_up_r x, am_up_r x]
  have loop : ∀ (r : Nat) (i : Int) (M1 : am_M), 0 ≤ i → i + r = 203 → (∀ k, k ≠ 70 → M1 k = M0 k) → (∀ k, 0 ≤ k → k < i → M1 70 k = M 71 (203 * (M 69 2 - 1) + k)) → wl_X6_undo_30 Q (r + 1) i M1 := by
    intro r
    induction r with
    | zero =>
      intro i M1 i0 hr f g
      have b2 : M1 69 2 = M 69 2 - 1 := by rw [f 69 (by omega)]; exact a2
      rw [wl_X6_undo_30, b2]
      exact ⟨by unfold am_rg; omega, fun _ => hq (by omega) M1 (fun k x y => (f k y).trans (ak' k x)) (fun j x y => by rw [f 69 (by omega)]; exact aj j x y) b2 (fun k k0 k1 => g k k0 (by omega)) (by rw [f 69 (by omega)]; exact a5), fun e => absurd (by omega) e⟩
    | succ r ih =>
      intro i M1 i0 hr f g
      have b2 : M1 69 2 = M 69 2 - 1 := by rw [f 69 (by omega)]; exact a2
      have b71 : M1 71 = M 71 := by rw [f 71 (by omega)]; exact ak' 71 (by omega)
      rw [wl_X6_undo_30, b2, b71]
      refine ⟨by unfold am_rg; omega, fun e => absurd e (by omega), fun _ => ⟨by omega, by omega, ih (i + 1) _ (by omega) (by omega) (fun k hk => by rw [am_up_r hk]; exact f k hk) (fun k k0 k1 => ?_)⟩⟩
      by_cases z : k = i
      · rw [z, am_up_s]
      · rw [am_up_n z]; exact g k k0 (by omega)
  exact ⟨_, loop 203 0 M0 (by omega) (by omega) (fun _ _ => rfl) (fun k k0 k1 => by omega)⟩
theorem mp_append {a : Int} {M : am_M} {Q : Int → am_M → Prop} (hL : 0 ≤ M 69 4 ∧ M 69 4 ≤ 60) (ra' : am_rg a) (x1 : ¬ (33 ≤ a ∧ a ≤ 126) → Rf M Q 1) (x2 : 33 ≤ a ∧ a ≤ 126 → M 69 4 = 60 → Rf M Q 2)
    (hq : 33 ≤ a ∧ a ≤ 126 → M 69 4 < 60 → Q (M 69 4 + 1) (am_up (am_up (am_up M 69 5 0) 72 (M 69 4) a) 69 4 (M 69 4 + 1))) : wp_X6_append a M Q := by
  refine mp_in ra' (by unfold am_rg; omega) (by unfold am_rg; omega) (fun h => ⟨by unfold am_rg; omega, fun _ => ?_, fun e => absurd (by omega) e⟩) (fun h => ⟨by unfold am_rg; omega, fun e => absurd rfl e, fun _ => Rf_a (x1 h) Fq_r⟩)
  have e4 : am_up M 69 5 0 69 4 = M 69 4 := am_up_n (by omega)
  have e4' : am_up (am_up M 69 5 0) 72 (M 69 4) a 69 4 = M 69 4 := by rw [am_up_r (by omega)]; exact e4
  rw [e4, e4', am_up_s]
  exact ⟨by unfold am_rg; omega, fun e => ⟨by omega, hq h (by omega)⟩, fun e => Rf_a (x2 h (by omega)) Fq_r⟩
theorem mp_clearBuffer {M : am_M} {Q : Int → am_M → Prop} (hq : Q (M 69 4) (am_up (am_up M 69 5 0) 69 4 0)) : wp_X6_clearBuffer M Q := by
  unfold wp_X6_clearBuffer
  rw [am_up_n (by omega)]
  exact hq
