/-! readings -/
def plr (D : am_M) (t n : Int) : Nat → Int
  | 0 => n
  | r + 1 => if t ≤ D 2 (n - ((r : Int) + 1)) then n - ((r : Int) + 1) else plr D t n r
theorem plr_s (D : am_M) (t n : Int) : ∀ r : Nat, n - (r : Int) ≤ plr D t n r ∧ plr D t n r ≤ n ∧ (∀ i, n - (r : Int) ≤ i → i < plr D t n r → D 2 i < t) ∧ (plr D t n r < n → t ≤ D 2 (plr D t n r))
  | 0 => by
    unfold plr
    exact ⟨by omega, by omega, fun i i0 i1 => by omega, fun z => by omega⟩
  | r + 1 => by
    have ih := plr_s D t n r
    unfold plr
    split
    next e => exact ⟨by omega, by omega, fun i i0 i1 => by omega, fun _ => e⟩
    next e =>
      refine ⟨by omega, by omega, fun i i0 i1 => ?_, ih.2.2.2⟩
      by_cases hi : i = n - ((r : Int) + 1)
      · subst hi; omega
      · exact ih.2.2.1 i (by omega) i1
def pl (D : am_M) (t : Int) : Int := plr D t (D 1 7) (D 1 7).toNat
theorem pl_s {D : am_M} {t : Int} (n0 : 0 ≤ D 1 7) : 0 ≤ pl D t ∧ pl D t ≤ D 1 7 ∧ (∀ i, 0 ≤ i → i < pl D t → D 2 i < t) ∧ (pl D t < D 1 7 → t ≤ D 2 (pl D t)) := by
  have h := plr_s D t (D 1 7) (D 1 7).toNat
  rw [show D 1 7 - (((D 1 7).toNat : Nat) : Int) = 0 by omega] at h
  exact h
theorem pl_u {D : am_M} {t p : Int} (h0 : 0 ≤ p) (h1 : p ≤ D 1 7) (h2 : ∀ i, 0 ≤ i → i < p → D 2 i < t) (h3 : p < D 1 7 → t ≤ D 2 p) : p = pl D t := by
  have h := pl_s (D := D) (t := t) (by omega)
  by_cases z1 : p < pl D t
  · have := h.2.2.1 p h0 z1
    have := h3 (by omega)
    omega
  · by_cases z2 : pl D t < p
    · have := h2 _ h.1 z2
      have := h.2.2.2 (by omega)
      omega
    · omega
def ra (D : am_M) (t : Int) : Int := kb D (pl D t).toNat
def rc (D : am_M) (t : Int) : Int := kf D (D 1 7) (D 1 7 - pl D t).toNat
def rdb (D : am_M) (t : Int) : Int := if (pl D t < D 1 7 ∧ D 4 (pl D t) = 1) ∧ D 2 (pl D t) = t then 1 else if ra D t ≠ -1 ∧ rc D t ≠ -1 ∧ D 5 (ra D t) = D 5 (rc D t) then sp_span D (ra D t) (rc D t) else 0
def rdt (D : am_M) (t : Int) : Int := if (pl D t < D 1 7 ∧ D 4 (pl D t) = 1) ∧ D 2 (pl D t) = t then D 3 (pl D t) else if ra D t ≠ -1 ∧ rc D t ≠ -1 ∧ D 5 (ra D t) = D 5 (rc D t) then D 3 (ra D t) * sp_span D (ra D t) (rc D t) + sp_rise D (ra D t) (rc D t) * (t - D 2 (ra D t)) else 0
theorem ra_s {D : am_M} {t : Int} (n0 : 0 ≤ D 1 7) : ra D t = -1 ∨ (0 ≤ ra D t ∧ ra D t < pl D t ∧ D 4 (ra D t) = 1) := by
  have h := kb_s D (pl D t).toNat
  have p := pl_s (D := D) (t := t) n0
  unfold ra
  omega
theorem rc_s {D : am_M} {t : Int} (n0 : 0 ≤ D 1 7) : rc D t = -1 ∨ (pl D t ≤ rc D t ∧ rc D t < D 1 7 ∧ D 4 (rc D t) = 1) := by
  have h := kf_s D (D 1 7) (D 1 7 - pl D t).toNat
  have p := pl_s (D := D) (t := t) n0
  unfold rc
  omega
theorem rv_b {c : Int} {D : am_M} (hd : OKd c D) {a b t : Int} (h0 : 0 ≤ a) (h1 : a < b) (h2 : b < D 1 7) (ht : 0 ≤ t ∧ t ≤ 9999) : (D 3 a * sp_span D a b + sp_rise D a b * (t - D 2 a)).natAbs ≤ 29967003 := by
  have ta := OKd_t hd h0 (by omega)
  have va := OKd_v hd h0 (by omega)
  have hs := span_b hd h0 h1 h2
  have p1 := sp_pb (x := D 3 a) (y := sp_span D a b) (a := 999) (b := 9999) (by omega) (by omega)
  have p2 := sp_pb (x := sp_rise D a b) (y := t - D 2 a) (a := 1998) (b := 9999) (by omega) (by omega)
  omega
theorem rd_b {c : Int} {D : am_M} (hd : OKd c D) {t : Int} (ht : 0 ≤ t ∧ t ≤ 9999) : 0 ≤ rdb D t ∧ rdb D t ≤ 9999 ∧ (rdt D t).natAbs ≤ 29967003 := by
  have hd' := hd
  obtain ⟨⟨n0, n1⟩, -⟩ := hd'
  have p := pl_s (D := D) (t := t) n0
  have ha := ra_s (D := D) (t := t) n0
  have hc := rc_s (D := D) (t := t) n0
  unfold rdb rdt
  split
  next e =>
    have := OKd_v hd p.1 e.1.1
    omega
  next e =>
    split
    next e2 =>
      have hs := span_b hd (a := ra D t) (b := rc D t) (by omega) (by omega) (by omega)
      have := rv_b hd (a := ra D t) (b := rc D t) (by omega) (by omega) (by omega) ht
      omega
    next e2 => omega
theorem gd_1 (x : Int) : gd x 1 = 1 := by unfold gd; rw [show (1 : Int).natAbs = 1 from rfl, Nat.gcd_one_right]; rfl
theorem dp_findReading {t : Int} {D M : am_M} {Q : Int → am_M → Prop} {c : Int} (hd : OKd c D) (hs : OKs D) (hf : Fr8 D M) (ht : 0 ≤ t ∧ t ≤ 9999)
    (q1 : rdb D t ≠ 0 → ∀ M', Fx 9 M M' → M' 9 1 = Int.tdiv (rdt D t) (gd (rdt D t) (rdb D t)) → M' 9 2 = Int.tdiv (rdb D t) (gd (rdt D t) (rdb D t)) → Q 1 M')
    (q0 : rdb D t = 0 → ∀ M', Fx 9 M M' → Q 0 M') : wp_X1_findReading t M Q := by
  have hd' := hd
  obtain ⟨⟨n0, n1⟩, -⟩ := hd'
  have hb := rd_b hd ht
  refine dp_placeOf hd hf (by unfold am_rg; omega) (fun p p0 p1 p2 p3 => ?_)
  have ep : p = pl D t := pl_u p0 p1 p2 p3
  have ha := ra_s (D := D) (t := t) n0
  have hc := rc_s (D := D) (t := t) n0
  have hn := nn_s (ra D t)
  have hm := nn_s (rc D t)
  have J : ¬ ((pl D t < D 1 7 ∧ D 4 (pl D t) = 1) ∧ D 2 (pl D t) = t) → wj_X1_findReading_53 Q t p M := by
    intro z
    refine dp_keptBelow hd hf ⟨p0, p1⟩ ?_
    refine dp_keptFrom hd hf ⟨p0, p1⟩ ?_
    have ea : kb D p.toNat = ra D t := by rw [ep]; rfl
    have ec : kf D (D 1 7) (D 1 7 - p).toNat = rc D t := by rw [ep]; rfl
    rw [ea, ec]
    refine dp_sameStretch hd hs hf (by unfold am_rg; omega) (by unfold am_rg; omega) (fun y => ⟨by unfold am_rg; omega, fun _ => ?_, fun e => absurd e (by omega)⟩) (fun y => ⟨by unfold am_rg; omega, fun e => absurd rfl e, fun _ => q0 ?_ M Fx_r⟩)
    · have e3 : nn (ra D t) = ra D t := by omega
      have e4 : nn (rc D t) = rc D t := by omega
      rw [e3, e4] at y ⊢
      have hv := rv_b hd (a := ra D t) (b := rc D t) (by omega) (by omega) (by omega) ht
      have hsp := span_b hd (a := ra D t) (b := rc D t) (by omega) (by omega) (by omega)
      have eb : rdb D t = sp_span D (ra D t) (rc D t) := by unfold rdb; rw [if_neg z, if_pos ⟨by omega, by omega, y.2.2⟩]
      have et : rdt D t = D 3 (ra D t) * sp_span D (ra D t) (rc D t) + sp_rise D (ra D t) (rc D t) * (t - D 2 (ra D t)) := by unfold rdt; rw [if_neg z, if_pos ⟨by omega, by omega, y.2.2⟩]
      have K : ∀ s0 v6, s0 = sp_span D (ra D t) (rc D t) → v6 = sp_rise D (ra D t) (rc D t) → wj_X1_findReading_157 Q t (ra D t) v6 s0 M := by
        intro s0 v6 e1 e2
        unfold wj_X1_findReading_157
        rw [am_up_s, am_up_r (k := 9) (k' := 2) (by omega), am_up_r (k := 9) (k' := 3) (by omega), fr_2 hf, fr_3 hf, e1, e2, ← et]
        refine ⟨by omega, by omega, sp_shorten (x := rdt D t) (y := rdb D t) (by rw [am_up_s]) (by rw [am_up_n (by omega), am_up_s, eb]) (by omega) (by omega) (fun M' f1 v1 v2 => q1 (by omega) M' (Fx_t (Fx_u (Fx_u Fx_r)) f1) v1 v2)⟩
      refine dp_isStep hd hf (fun e => ⟨by unfold am_rg; omega, fun z => absurd z (by omega), fun _ => ?_⟩) (fun e => ⟨by unfold am_rg; omega, fun _ => ⟨by omega, by omega, ?_⟩, fun z => absurd rfl z⟩)
      · refine ⟨by unfold am_rg; omega, fun z => absurd z (by omega), fun _ => ?_⟩
        refine K _ _ ?_ ?_
        · unfold sp_span; rw [if_pos e]
        · unfold sp_rise; rw [if_pos e]
      · refine ⟨by unfold am_rg; omega, fun _ => ⟨by omega, by omega, ?_⟩, fun z => absurd rfl z⟩
        refine K _ _ ?_ ?_
        · unfold sp_span; rw [if_neg (by omega), fr_2 hf]
        · unfold sp_rise; rw [if_neg (by omega), fr_3 hf]
    · unfold rdb
      rw [if_neg z, if_neg]
      intro w
      rw [show nn (ra D t) = ra D t by omega, show nn (rc D t) = rc D t by omega] at y
      omega
  refine dp_isKept hd hf (by unfold am_rg; omega) (fun y => ⟨by unfold am_rg; omega, fun e => absurd e (by omega), fun _ => ⟨by omega, ?_, by unfold am_rg; omega, fun e => ?_, fun e => ⟨by omega, ?_⟩⟩⟩) (fun y => ⟨by unfold am_rg; omega, fun _ => ?_, fun e => absurd rfl e⟩)
  · rw [fr_2 hf]
    have := OKd_t hd y.1.1 y.1.2
    unfold am_rg; omega
  · rw [fr_2 hf] at e
    exact J (fun z => e (by rw [ep]; exact z.2))
  · rw [fr_2 hf] at e
    have z : (pl D t < D 1 7 ∧ D 4 (pl D t) = 1) ∧ D 2 (pl D t) = t := by rw [← ep]; omega
    have eb : rdb D t = 1 := by unfold rdb; rw [if_pos z]
    have et : rdt D t = D 3 (pl D t) := by unfold rdt; rw [if_pos z]
    refine q1 (by omega) _ (Fx_u (Fx_u Fx_r)) ?_ ?_
    · rw [am_up_n (by omega), am_up_s, eb, gd_1, Int.tdiv_one, et, fr_3 hf, ep]
    · rw [am_up_s, eb, gd_1, Int.tdiv_one]
  · exact J (fun z => y (by rw [ep]; exact ⟨⟨by omega, z.1.1⟩, z.1.2⟩))
theorem gd_x {x y : Int} (hy : 1 ≤ y) : x = Int.tdiv x (gd x y) * gd x y ∧ y = Int.tdiv y (gd x y) * gd x y ∧ 1 ≤ Int.tdiv y (gd x y) ∧ Int.tdiv y (gd x y) ≤ y ∧ (Int.tdiv x (gd x y)).natAbs ≤ x.natAbs := by
  have hg := gd_b (x := x) hy
  have h1 : x = Int.tdiv x (gd x y) * gd x y := (Int.tdiv_mul_cancel (Int.gcd_dvd_left x y)).symm
  have h2 : y = Int.tdiv y (gd x y) * gd x y := (Int.tdiv_mul_cancel (Int.gcd_dvd_right x y)).symm
  have h3 : (Int.tdiv x (gd x y)).natAbs ≤ x.natAbs := Nat.le_trans (Nat.le_mul_of_pos_right _ (show 0 < (gd x y).natAbs by omega)) (by rw [← Int.natAbs_mul, ← h1]; exact Nat.le_refl _)
  have h4 : (Int.tdiv y (gd x y)).natAbs ≤ y.natAbs := Nat.le_trans (Nat.le_mul_of_pos_right _ (show 0 < (gd x y).natAbs by omega)) (by rw [← Int.natAbs_mul, ← h2]; exact Nat.le_refl _)
  have h5 : 0 ≤ Int.tdiv y (gd x y) := Int.tdiv_nonneg (by omega) (by omega)
  have h6 : Int.tdiv y (gd x y) ≠ 0 := fun z => by rw [z] at h2; omega
  exact ⟨h1, h2, by omega, by omega, h3⟩
def ab (x : Int) : Int := if 0 ≤ x then x else 0 - x
theorem ab_mul {x g : Int} (hg : 1 ≤ g) : ab (x * g) = ab x * g := by
  unfold ab
  by_cases h : 0 ≤ x
  · rw [if_pos h, if_pos (Int.mul_nonneg h (by omega))]
  · rw [if_neg h]
    have : x * g < 0 := Int.mul_neg_of_neg_of_pos (by omega) (by omega)
    rw [if_neg (by omega), Int.sub_mul]
    omega
theorem ab_le {v o x y : Int} (hy : 1 ≤ y) : ab (v * Int.tdiv y (gd x y) - Int.tdiv x (gd x y)) ≤ o * Int.tdiv y (gd x y) ↔ ab (v * y - x) ≤ o * y := by
  have hg := gd_b (x := x) hy
  obtain ⟨h1, h2, -⟩ := gd_x (x := x) hy
  generalize Int.tdiv x (gd x y) = x' at *
  generalize Int.tdiv y (gd x y) = y' at *
  generalize gd x y = g at *
  have e1 : v * y - x = (v * y' - x') * g := by rw [h1, h2, Int.sub_mul, Int.mul_assoc]
  have e2 : o * y = (o * y') * g := by rw [h2, Int.mul_assoc]
  rw [e1, e2, ab_mul hg.1]
  exact ⟨fun h => Int.mul_le_mul_of_nonneg_right h (by omega), fun h => Int.le_of_mul_le_mul_right h (by omega)⟩
def tn (D : am_M) (t v : Int) : Prop := rdb D t ≠ 0 ∧ ab (v * rdb D t - rdt D t) ≤ D 6 0 * rdb D t
theorem dp_isTrue {k : Int} {D M : am_M} {Q : Int → am_M → Prop} {c : Int} (hd : OKd c D) (hs : OKs D) (hf : Fr8 D M) (hk : 0 ≤ k ∧ k < D 1 8) (q1 : tn D (D 7 k) (D 8 k) → ∀ M', Fx 9 M M' → Q 1 M') (q0 : ¬ tn D (D 7 k) (D 8 k) → ∀ M', Fx 9 M M' → Q 0 M') : wp_X1_isTrue k M Q := by
  have hd' := hd
  obtain ⟨-, -, -, o1, -, -, k1, k2, -⟩ := hd'
  have hN := k2 k hk.1 hk.2
  have e1 : M 1 8 = D 1 8 := congrFun (fr_1 hf) 8
  have hb := rd_b hd (t := D 7 k) hN.1
  unfold tn at q1 q0
  refine ⟨by unfold am_rg; omega, fun e => absurd e (by omega), fun _ => ⟨by unfold am_rg; omega, by unfold am_rg; omega, fun e => absurd e (by omega), fun _ => ⟨by omega, ?_⟩⟩⟩
  rw [fr_7 hf]
  refine dp_findReading hd hs hf hN.1 (fun y M' f1 v1 v2 => ⟨by unfold am_rg; omega, fun _ => ⟨by omega, ?_⟩, fun e => absurd e (by omega)⟩) (fun y M' f1 => ⟨by unfold am_rg; omega, fun e => absurd rfl e, fun _ => q0 (fun z => z.1 y) M' f1⟩)
  have hf' := Fx_f hf (by omega) f1
  rw [fr_8 hf', fr_6 hf', v1, v2]
  have hx := gd_x (x := rdt D (D 7 k)) (y := rdb D (D 7 k)) (by omega)
  have hle := ab_le (v := D 8 k) (o := D 6 0) (x := rdt D (D 7 k)) (y := rdb D (D 7 k)) (by omega)
  have p1 := sp_pb (x := D 8 k) (y := Int.tdiv (rdb D (D 7 k)) (gd (rdt D (D 7 k)) (rdb D (D 7 k)))) (a := 999) (b := 9999) (by omega) (by omega)
  have p2 := sp_pb (x := D 6 0) (y := Int.tdiv (rdb D (D 7 k)) (gd (rdt D (D 7 k)) (rdb D (D 7 k)))) (a := 500) (b := 9999) (by omega) (by omega)
  unfold ab at hle
  unfold ab at q1 q0
  refine ⟨by unfold am_rg; omega, ⟨by unfold am_rg; split <;> omega, by unfold am_rg; omega, fun e => q0 (fun z => ?_) M' f1, fun e => q1 ⟨y, hle.mp (by omega)⟩ M' f1⟩⟩
  have := hle.mpr z.2
  omega
def et (D : am_M) (p : Int) : Int := if D 4 p = 1 then 0 else if ek D p ≠ -1 ∧ lk D p ≠ -1 then sp_mi D (ek D p) (lk D p) p else -1
def eb (D : am_M) (p : Int) : Int := if D 4 p = 1 then 1 else if ek D p ≠ -1 ∧ lk D p ≠ -1 then sp_span D (ek D p) (lk D p) else 0
theorem ee_b {c : Int} {D : am_M} (hd : OKd c D) {p : Int} (hp : 0 ≤ p ∧ p < D 1 7) : -1 ≤ et D p ∧ et D p ≤ 39960000 ∧ 0 ≤ eb D p ∧ eb D p ≤ 9999 ∧ (0 ≤ et D p ↔ 1 ≤ eb D p) := by
  have he := ek_s (D := D) hp.1
  have hl := lk_s (D := D) hp.2
  unfold et eb
  split
  next e => omega
  next e =>
    split
    next e2 =>
      have hi := mi_b hd (a := ek D p) (b := lk D p) (k := p) (by omega) (by omega) (by omega) hp.1 hp.2
      have hs := span_b hd (a := ek D p) (b := lk D p) (by omega) (by omega) (by omega)
      omega
    next e2 => omega
theorem dp_findError {p : Int} {D M : am_M} {Q : Int → am_M → Prop} {c : Int} (hd : OKd c D) (hs : OKs D) (hf : Fr8 D M) (hp : 0 ≤ p ∧ p < D 1 7)
    (q1 : 0 ≤ et D p → ∀ M', Fx 9 M M' → M' 9 1 = Int.tdiv (et D p) (gd (et D p) (eb D p)) → M' 9 2 = Int.tdiv (eb D p) (gd (et D p) (eb D p)) → Q 1 M')
    (q0 : et D p < 0 → ∀ M', Fx 9 M M' → Q 0 M') : wp_X1_findError p M Q := by
  have hd' := hd
  obtain ⟨⟨n0, n1⟩, -⟩ := hd'
  have he := ek_s (D := D) hp.1
  have hl := lk_s (D := D) hp.2
  have hn := nn_s (ek D p)
  have hm := nn_s (lk D p)
  have hb := ee_b hd hp
  refine dp_isKept hd hf (by unfold am_rg; omega) (fun q => ⟨by unfold am_rg; omega, fun e => absurd e (by omega), fun _ => ?_⟩) (fun q => ⟨by unfold am_rg; omega, fun _ => ?_, fun e => absurd rfl e⟩)
  · have e1 : et D p = 0 := by unfold et; rw [if_pos q.2]
    have e2 : eb D p = 1 := by unfold eb; rw [if_pos q.2]
    rw [e1, e2, gd_1] at q1
    refine q1 (by omega) _ (Fx_u (Fx_u Fx_r)) ?_ ?_
    · rw [am_up_n (by omega), am_up_s]; rfl
    · rw [am_up_s]; rfl
  · have hk : ¬ D 4 p = 1 := fun z => q ⟨hp, z⟩
    refine dp_earlierKept hd hs hf hp ?_
    refine dp_laterKept hd hs hf hp ?_
    unfold et eb at q1
    unfold et at q0
    rw [if_neg hk] at q1 q0
    rw [if_neg hk] at q1
    refine dp_findMiss hd hs hf (by unfold am_rg; omega) (by unfold am_rg; omega) (by unfold am_rg; omega) (fun z1 z2 => by omega) (fun z1 z2 M' f1 v1 v2 => ?_) (fun z M' f1 v1 v2 => ?_)
    · have e3 : nn (ek D p) = ek D p := by omega
      have e4 : nn (lk D p) = lk D p := by omega
      rw [e3, e4] at v1 v2
      have hi := mi_b hd (a := ek D p) (b := lk D p) (k := p) (by omega) (by omega) (by omega) hp.1 hp.2
      have hsp := span_b hd (a := ek D p) (b := lk D p) (by omega) (by omega) (by omega)
      rw [if_pos ⟨by omega, by omega⟩] at q1
      rw [if_pos ⟨by omega, by omega⟩] at q1
      exact sp_shorten v1 v2 (by omega) (by omega) (fun M2 f2 w1 w2 => ⟨Or.inr rfl, q1 (by omega) M2 (Fx_t f1 f2) w1 w2⟩)
    · refine sp_shorten v1 v2 (by omega) (by omega) (fun M2 f2 w1 w2 => ⟨Or.inl rfl, q0 ?_ M2 (Fx_t f1 f2)⟩)
      rw [if_neg]
      · omega
      · intro y
        refine z ?_
        have e3 : nn (ek D p) = ek D p := by omega
        have e4 : nn (lk D p) = lk D p := by omega
        rw [e3, e4]
        omega
/-! the point that is cheapest to drop -/
def gm (D : am_M) (p : Int) : Int := if sp_mx D (ek D p) (lk D p) (lk D p - ek D p - 1).toNat < 0 then 0 else sp_mx D (ek D p) (lk D p) (lk D p - ek D p - 1).toNat
def gs (D : am_M) (p : Int) : Int := sp_span D (ek D p) (lk D p)
def lmS (D : am_M) : Nat → Int × Int × Int
  | 0 => (-1000000, 0, 1)
  | i + 1 => if rk D (i : Int) = 0 ∧ ((lmS D i).1 < 0 ∨ gm D (i : Int) * (lmS D i).2.2 < (lmS D i).2.1 * gs D (i : Int)) then ((i : Int), gm D (i : Int), gs D (i : Int)) else lmS D i
theorem rk_0 {D : am_M} {p : Int} (hp : 0 ≤ p ∧ p < D 1 7) (h : rk D p = 0) : D 4 p = 1 ∧ 0 ≤ ek D p ∧ ek D p < p ∧ p < lk D p ∧ lk D p < D 1 7 ∧ D 5 (ek D p) = D 5 p ∧ D 5 p = D 5 (lk D p) ∧ nn (ek D p) = ek D p ∧ nn (lk D p) = lk D p := by
  have he := ek_s (D := D) hp.1
  have hl := lk_s (D := D) hp.2
  have hn := nn_s (ek D p)
  have hm := nn_s (lk D p)
  unfold rk at h
  split at h
  · omega
  · split at h
    · omega
    · omega
theorem gm_b {c : Int} {D : am_M} (hd : OKd c D) {p : Int} (hp : 0 ≤ p ∧ p < D 1 7) (h : rk D p = 0) : (0 ≤ gm D p ∧ gm D p ≤ 39960000) ∧ (1 ≤ gs D p ∧ gs D p ≤ 9999) := by
  have h0 := rk_0 hp h
  have hx := mx_b hd (a := ek D p) (b := lk D p) (by omega) (by omega) (by omega) (lk D p - ek D p - 1).toNat (by omega)
  have hs := span_b hd (a := ek D p) (b := lk D p) (by omega) (by omega) (by omega)
  unfold gm gs
  split <;> omega
theorem lm_b {c : Int} {D : am_M} (hd : OKd c D) : ∀ i : Nat, (i : Int) ≤ D 1 7 → ((lmS D i).1 = -1000000 ∨ (0 ≤ (lmS D i).1 ∧ (lmS D i).1 < (i : Int) ∧ rk D (lmS D i).1 = 0 ∧ (lmS D i).2.1 = gm D (lmS D i).1 ∧ (lmS D i).2.2 = gs D (lmS D i).1)) ∧ (0 ≤ (lmS D i).2.1 ∧ (lmS D i).2.1 ≤ 39960000) ∧ (1 ≤ (lmS D i).2.2 ∧ (lmS D i).2.2 ≤ 9999)
  | 0, _ => by unfold lmS; simp
  | i + 1, hi => by
    have ih := lm_b hd i (by omega)
    unfold lmS
    split
    next e =>
      have := gm_b hd ⟨by omega, by omega⟩ e.1
      exact ⟨Or.inr ⟨by show 0 ≤ (i : Int); omega, by show (i : Int) < ((i + 1 : Nat) : Int); omega, e.1, rfl, rfl⟩, this⟩
    next e =>
      refine ⟨?_, ih.2⟩
      rcases ih.1 with h | h
      · exact Or.inl h
      · exact Or.inr ⟨h.1, by omega, h.2.2⟩
theorem am_lci_le {x y : Int} : 0 ≤ am_lci x y ↔ y ≤ x := by
  unfold am_lci
  split
  · omega
  · split <;> omega
theorem am_lci_b {x y : Int} : am_rg (am_lci x y) := by
  unfold am_lci am_rg
  split
  · omega
  · split <;> omega
theorem dp_leastMissed {D M : am_M} {Q : Int → am_M → Prop} {c : Int} (hd : OKd c D) (hs : OKs D) (hf : Fr8 D M) (hq : ∀ M', Fx 9 M M' → Q (lmS D (D 1 7).toNat).1 M') : wp_X1_leastMissed M Q := by
  have hd' := hd
  obtain ⟨⟨n0, n1⟩, -⟩ := hd'
  have loop : ∀ (r k : Nat) (M1 : am_M), (k : Int) + r = D 1 7 → Fx 9 M M1 → wl_X1_leastMissed_11 Q (r + 1) (lmS D k).1 (lmS D k).2.1 (lmS D k).2.2 (k : Int) M1 := by
    intro r
    induction r with
    | zero =>
      intro k M1 hk f1
      have hf' := Fx_f hf (by omega) f1
      have e1 : M1 1 7 = D 1 7 := congrFun (fr_1 hf') 7
      refine ⟨by unfold am_rg; omega, by unfold am_rg; omega, fun _ => ?_, fun q => absurd q (by omega)⟩
      rw [show k = (D 1 7).toNat by omega]
      exact hq M1 f1
    | succ r ih =>
      intro k M1 hk f1
      have hf' := Fx_f hf (by omega) f1
      have e1 : M1 1 7 = D 1 7 := congrFun (fr_1 hf') 7
      have hp : 0 ≤ (k : Int) ∧ (k : Int) < D 1 7 := ⟨by omega, by omega⟩
      have hlm := lm_b hd k (by omega)
      refine ⟨by unfold am_rg; omega, by unfold am_rg; omega, fun q => absurd q (by omega), fun _ => ?_⟩
      refine dp_reasonToKeep hd hs hf' hp (fun M2 f2 => ?_)
      have hf2 := Fx_f hf' (by omega) f2
      have F2 := Fx_t f1 f2
      refine ⟨?_, fun e => ?_, fun e => ?_⟩
      · unfold am_rg rk; split <;> (try split) <;> (try split) <;> omega
      · have h := ih (k + 1) M2 (by omega) F2
        unfold lmS at h
        rw [if_neg (fun z => e z.1)] at h
        exact h
      · have e0 : rk D (k : Int) = 0 := by omega
        have h0 := rk_0 hp e0
        have hg := gm_b hd hp e0
        refine dp_earlierKept hd hs hf2 hp ?_
        refine dp_laterKept hd hs hf2 hp ?_
        rw [h0.2.2.2.2.2.2.2.1, h0.2.2.2.2.2.2.2.2]
        refine dp_findWorst hd hs hf2 (by omega) (by omega) (by omega) (by omega) (fun M3 f3 v1 v2 => ?_)
        have F3 := Fx_t F2 f3
        have v1' : M3 9 1 = gm D (k : Int) := v1
        have v2' : M3 9 2 = gs D (k : Int) := v2
        rw [v1', v2']
        have h := ih (k + 1) M3 (by omega) F3
        unfold lmS at h
        have p1 := sp_pb (x := gm D (k : Int)) (y := (lmS D k).2.2) (a := 39960000) (b := 9999) (by omega) (by omega)
        have p2 := sp_pb (x := (lmS D k).2.1) (y := gs D (k : Int)) (a := 39960000) (b := 9999) (by omega) (by omega)
        refine ⟨by unfold am_rg; omega, by unfold am_rg; omega, by unfold am_rg; omega, fun e2 => ?_, fun e2 => ⟨Or.inl ⟨by unfold am_rl; omega, by unfold am_rl; omega⟩, am_lci_b, fun e3 => ?_, fun e3 => ?_⟩⟩
        · rw [if_pos ⟨e0, Or.inl (by omega)⟩] at h
          exact h
        · rw [am_lci_le] at e3
          rw [if_neg (by omega)] at h
          exact h
        · rw [am_lci_le] at e3
          rw [if_pos ⟨e0, Or.inr (by omega)⟩] at h
          exact h
  exact ⟨_, loop (D 1 7).toNat 0 M (by omega) Fx_r⟩
