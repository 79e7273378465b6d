/-! the reference's public questions -/
def Fp (M M' : am_M) : Prop := (∀ k, k ≠ 69 → (k < 75 ∨ 77 < k) → M' k = M k) ∧ (∀ j, (j < 9 ∨ 12 < j) → j ≠ 5 → M' 69 j = M 69 j)
theorem Fp_0 {M M1 : am_M} (h : Fq (am_up M 69 5 0) M1) : Fp M M1 ∧ M1 69 5 = 0 :=
  ⟨⟨fun k k1 k2 => by rw [h.1 k k1 k2, am_up_r k1], fun j hj h5 => by rw [h.2 j hj, am_up_n h5]⟩, by rw [h.2 5 (by omega), am_up_s]⟩
theorem Fp_e {M M1 : am_M} {e : Int} (h : Fq (am_up M 69 5 0) M1) : Fp M (am_up M1 69 5 e) ∧ am_up M1 69 5 e 69 5 = e :=
  ⟨⟨fun k k1 k2 => by rw [am_up_r k1, h.1 k k1 k2, am_up_r k1], fun j hj h5 => by rw [am_up_n h5, h.2 j hj, am_up_n h5]⟩, am_up_s⟩
theorem Fp_hm {M D : am_M} (hm : Mqr (M 70) D) : Mqr (am_up M 69 5 0 70) D := by rw [am_up_r (by omega)]; exact hm
/-- a refusal, an answer of the reference -/
def Rf (M : am_M) (Q : Int → am_M → Prop) (e : Int) : Prop := ∀ M', Fp M M' → M' 69 5 = e → Q 0 M'
def Ra (M : am_M) (Q : Int → am_M → Prop) (x : Int) : Prop := ∀ M', Fp M M' → M' 69 5 = 0 → Q x M'
theorem Rf_a {M M1 : am_M} {Q : Int → am_M → Prop} {e : Int} (h : Rf M Q e) (f : Fq (am_up M 69 5 0) M1) : wp_X6_fails e M1 (fun x3 M4 => Q x3 M4) := h _ (Fp_e f).1 (Fp_e f).2
theorem Ra_a {M M1 : am_M} {Q : Int → am_M → Prop} {x : Int} (h : Ra M Q x) (f : Fq (am_up M 69 5 0) M1) : Q x M1 := h _ (Fp_0 f).1 (Fp_0 f).2
theorem mp_point {p w : Int} {D M : am_M} {Q : Int → am_M → Prop} {c : Int} (hd : OKd c D) (hs : OKs D) (hm : Mqr (M 70) D) (rp : am_rg p) (rw' : am_rg w)
    (x1 : ¬ (0 ≤ p ∧ p < D 1 7) → Rf M Q 1) (x2 : 0 ≤ p ∧ p < D 1 7 → ¬ (0 ≤ w ∧ w ≤ 7) → Rf M Q 2) (hq : 0 ≤ p ∧ p < D 1 7 → 0 ≤ w ∧ w ≤ 7 → Ra M Q (pq D p w)) : wp_X6_point p w M Q := by
  have hm0 := Fp_hm hm
  refine mp_isPoint hd hm0 rp (fun h => ⟨by unfold am_rg; omega, fun _ => mp_in rw' (by unfold am_rg; omega) (by unfold am_rg; omega) (fun h2 => ⟨by unfold am_rg; omega, fun e => absurd e (by omega), fun _ => ?_⟩) (fun h2 => ⟨by unfold am_rg; omega, fun _ => Rf_a (x2 h h2) Fq_r, fun e => absurd rfl e⟩), fun e => absurd (by omega) e⟩) (fun h => ⟨by unfold am_rg; omega, fun e => absurd rfl e, fun _ => Rf_a (x1 h) Fq_r⟩)
  exact mp_aboutPoint hd hs hm0 h h2 (fun M1 f1 => Ra_a (hq h h2) f1)
theorem mp_error {p w : Int} {D M : am_M} {Q : Int → am_M → Prop} {c : Int} (hd : OKd c D) (hs : OKs D) (hm : Mqr (M 70) D) (rp : am_rg p) (rw' : am_rg w)
    (x1 : ¬ (0 ≤ p ∧ p < D 1 7) → Rf M Q 1) (x2 : 0 ≤ p ∧ p < D 1 7 → ¬ (0 ≤ w ∧ w ≤ 1) → Rf M Q 2) (hq : 0 ≤ p ∧ p < D 1 7 → 0 ≤ w ∧ w ≤ 1 → Ra M Q (eqq D p w)) : wp_X6_error p w M Q := by
  have hm0 := Fp_hm hm
  refine mp_isPoint hd hm0 rp (fun h => ⟨by unfold am_rg; omega, fun _ => mp_in rw' (by unfold am_rg; omega) (by unfold am_rg; omega) (fun h2 => ⟨by unfold am_rg; omega, fun e => absurd e (by omega), fun _ => ?_⟩) (fun h2 => ⟨by unfold am_rg; omega, fun _ => Rf_a (x2 h h2) Fq_r, fun e => absurd rfl e⟩), fun e => absurd (by omega) e⟩) (fun h => ⟨by unfold am_rg; omega, fun e => absurd rfl e, fun _ => Rf_a (x1 h) Fq_r⟩)
  exact mp_errorOf hd hs hm0 h rw' (fun M1 f1 => Ra_a (hq h h2) f1)
theorem mp_reading {t w : Int} {D M : am_M} {Q : Int → am_M → Prop} {c : Int} (hd : OKd c D) (hs : OKs D) (hm : Mqr (M 70) D) (rp : am_rg t) (rw' : am_rg w)
    (x1 : ¬ ((0 ≤ t ∧ t ≤ 9999) ∧ (0 ≤ w ∧ w ≤ 1)) → Rf M Q 1) (hq : 0 ≤ t ∧ t ≤ 9999 → 0 ≤ w ∧ w ≤ 1 → Ra M Q (rqq D t w)) : wp_X6_reading t w M Q := by
  have hm0 := Fp_hm hm
  refine mp_in rp (by unfold am_rg; omega) (by unfold am_rg; omega) (fun h => ⟨by unfold am_rg; omega, fun e => absurd e (by omega), fun _ => mp_in rw' (by unfold am_rg; omega) (by unfold am_rg; omega) (fun h2 => ⟨by unfold am_rg; omega, fun _ => ?_, fun e => absurd (by omega) e⟩) (fun h2 => ⟨by unfold am_rg; omega, fun e => absurd rfl e, fun _ => Rf_a (x1 (fun z => h2 z.2)) Fq_r⟩)⟩) (fun h => ⟨by unfold am_rg; omega, fun _ => Rf_a (x1 (fun z => h z.1)) Fq_r, fun e => absurd rfl e⟩)
  have hb := rd_b hd h
  refine mp_read hd hs hm0 h (fun M1 f1 a1 b1 => ?_)
  have H := Ra_a (hq h h2) f1
  unfold rqq at H
  rw [a1]
  refine ⟨by unfold am_rg; omega, fun e => ?_, fun e => ?_⟩
  · rw [if_neg e] at H
    rw [b1 e]
    exact mp_lowest (by omega) (by omega) rw' H
  · rw [if_pos (by omega)] at H
    exact H
theorem mp_stretch {s w : Int} {D M : am_M} {Q : Int → am_M → Prop} {c : Int} (hd : OKd c D) (hs : OKs D) (hm : Mqr (M 70) D) (rp : am_rg s) (rw' : am_rg w)
    (x1 : ¬ (0 ≤ s ∧ s < cs D) → Rf M Q 1) (x2 : 0 ≤ s ∧ s < cs D → ¬ (0 ≤ w ∧ w ≤ 4) → Rf M Q 2) (hq : 0 ≤ s ∧ s < cs D → 0 ≤ w ∧ w ≤ 4 → Ra M Q (sq D s w)) : wp_X6_stretch s w M Q := by
  have hm0 := Fp_hm hm
  have hc := cs_b hd hs
  have n1 := hd.1
  refine mp_stretches hd hs hm0 (mp_in rp (by unfold am_rg; omega) (by unfold am_rg; omega) (fun h => ⟨by unfold am_rg; omega, fun _ => mp_in rw' (by unfold am_rg; omega) (by unfold am_rg; omega) (fun h2 => ⟨by unfold am_rg; omega, fun e => absurd e (by omega), fun _ => ?_⟩) (fun h2 => ⟨by unfold am_rg; omega, fun _ => Rf_a (x2 (by omega) h2) Fq_r, fun e => absurd rfl e⟩), fun e => absurd (by omega) e⟩) (fun h => ⟨by unfold am_rg; omega, fun e => absurd rfl e, fun _ => Rf_a (x1 (by omega)) Fq_r⟩))
  exact mp_aboutStretch hd hs hm0 (by omega) h2 (fun M1 f1 => Ra_a (hq (by omega) h2) f1)
theorem mp_noteAt {k w : Int} {D M : am_M} {Q : Int → am_M → Prop} {c : Int} (hd : OKd c D) (hs : OKs D) (hm : Mqr (M 70) D) (rp : am_rg k) (rw' : am_rg w)
    (x1 : ¬ (0 ≤ k ∧ k < D 1 8) → Rf M Q 1) (x2 : 0 ≤ k ∧ k < D 1 8 → ¬ (0 ≤ w ∧ w ≤ 2) → Rf M Q 2) (hq : 0 ≤ k ∧ k < D 1 8 → 0 ≤ w ∧ w ≤ 2 → Ra M Q (nq D k w)) : wp_X6_noteAt k w M Q := by
  have hm0 := Fp_hm hm
  have h8 := hd.2.2.2.2.2.2.1
  unfold wp_X6_noteAt
  rw [hm0.2.1]
  refine mp_in rp (by unfold am_rg; omega) (by unfold am_rg; omega) (fun h => ⟨by unfold am_rg; omega, fun _ => mp_in rw' (by unfold am_rg; omega) (by unfold am_rg; omega) (fun h2 => ⟨by unfold am_rg; omega, fun e => absurd e (by omega), fun _ => ?_⟩) (fun h2 => ⟨by unfold am_rg; omega, fun _ => Rf_a (x2 (by omega) h2) Fq_r, fun e => absurd rfl e⟩), fun e => absurd (by omega) e⟩) (fun h => ⟨by unfold am_rg; omega, fun e => absurd rfl e, fun _ => Rf_a (x1 (by omega)) Fq_r⟩)
  exact mp_aboutNote hd hs hm0 (by omega) h2 (fun M1 f1 => Ra_a (hq (by omega) h2) f1)
theorem mp_count {w : Int} {D M : am_M} {Q : Int → am_M → Prop} {c : Int} (hd : OKd c D) (hs : OKs D) (hm : Mqr (M 70) D) (rw' : am_rg w)
    (x1 : ¬ (0 ≤ w ∧ w ≤ 10) → Rf M Q 1) (hq : 0 ≤ w ∧ w ≤ 10 → Ra M Q (cq D (M 69 2) w)) : wp_X6_count w M Q := by
  have hm0 := Fp_hm hm
  refine mp_in rw' (by unfold am_rg; omega) (by unfold am_rg; omega) (fun h2 => ⟨by unfold am_rg; omega, fun e => absurd e (by omega), fun _ => ?_⟩) (fun h2 => ⟨by unfold am_rg; omega, fun _ => Rf_a (x1 h2) Fq_r, fun e => absurd rfl e⟩)
  refine mp_number hd hs hm0 h2 (fun M1 f1 => ?_)
  rw [am_up_n (by omega)]
  exact Ra_a (hq h2) f1
theorem mp_setting {s : Int} {D M : am_M} {Q : Int → am_M → Prop} (hm : Mqr (M 70) D) (rw' : am_rg s)
    (x1 : ¬ (0 ≤ s ∧ s < 3) → Rf M Q 1) (hq : 0 ≤ s ∧ s < 3 → Ra M Q (D 6 s)) : wp_X6_setting s M Q := by
  have hm0 := Fp_hm hm
  refine mp_in rw' (by unfold am_rg; omega) (by unfold am_rg; omega) (fun h2 => ⟨by unfold am_rg; omega, fun e => absurd e (by omega), fun _ => ⟨by omega, ?_⟩⟩) (fun h2 => ⟨by unfold am_rg; omega, fun _ => Rf_a (x1 (by omega)) Fq_r, fun e => absurd rfl e⟩)
  have H := Ra_a (hq (by omega)) (Fq_r (M := am_up M 69 5 0))
  have hs3 : s = 0 ∨ s = 1 ∨ s = 2 := by omega
  rcases hs3 with z | z | z
  · rw [z] at H ⊢
    rw [show (4 : Int) + 0 = 4 by omega, hm0.2.2.2.2.1]; exact H
  · rw [z] at H ⊢
    rw [show (4 : Int) + 1 = 5 by omega, hm0.2.2.2.2.2.1]; exact H
  · rw [z] at H ⊢
    rw [show (4 : Int) + 2 = 6 by omega, hm0.2.2.2.2.2.2.1]; exact H
theorem mp_whyNot {p : Int} {D M : am_M} {Q : Int → am_M → Prop} {c : Int} (hd : OKd c D) (hs : OKs D) (hm : Mqr (M 70) D) (rp : am_rg p)
    (x1 : ¬ (0 ≤ p ∧ p < D 1 7) → Rf M Q 1) (hq : 0 ≤ p ∧ p < D 1 7 → Ra M Q (rk D p)) : wp_X6_whyNot p M Q := by
  have hm0 := Fp_hm hm
  exact mp_isPoint hd hm0 rp (fun h => ⟨by unfold am_rg; omega, fun e => absurd e (by omega), fun _ => mp_against hd hs hm0 h (fun M1 f1 _ => Ra_a (hq h) f1)⟩) (fun h => ⟨by unfold am_rg; omega, fun _ => Rf_a (x1 h) Fq_r, fun e => absurd rfl e⟩)
theorem mp_join {a b : Int} {D M : am_M} {Q : Int → am_M → Prop} {c : Int} (hd : OKd c D) (hs : OKs D) (hm : Mqr (M 70) D) (ra' : am_rg a) (rb' : am_rg b)
    (x1 : ¬ ((0 ≤ a ∧ a < D 1 7) ∧ (0 ≤ b ∧ b < D 1 7)) → Rf M Q 1) (x2 : (0 ≤ a ∧ a < D 1 7) ∧ (0 ≤ b ∧ b < D 1 7) → b ≤ a → Rf M Q 2) (hq : 0 ≤ a → a < b → b < D 1 7 → Ra M Q (jq D a b)) : wp_X6_join a b M Q := by
  have hm0 := Fp_hm hm
  have n1 := hd.1
  have ho := hd.2.2.2.1
  refine mp_isPoint hd hm0 ra' (fun h1 => ⟨by unfold am_rg; omega, fun e => absurd e (by omega), fun _ => mp_isPoint hd hm0 rb' (fun h2 => ⟨by unfold am_rg; omega, fun _ => ⟨rb', ra', fun hab => ?_, fun hab => Rf_a (x2 ⟨h1, h2⟩ (by omega)) Fq_r⟩, fun e => absurd (by omega) e⟩) (fun h2 => ⟨by unfold am_rg; omega, fun e => absurd rfl e, fun _ => Rf_a (x1 (fun z => h2 z.2)) Fq_r⟩)⟩) (fun h1 => ⟨by unfold am_rg; omega, fun _ => Rf_a (x1 (fun z => h1 z.1)) Fq_r, fun e => absurd rfl e⟩)
  have s1 := OKs_b hs h1.1 h1.2
  have s2 := OKs_b hs h2.1 h2.2
  have H := Ra_a (hq h1.1 hab h2.2) (Fq_r (M := am_up M 69 5 0))
  unfold jq at H
  refine mp_stretchOf hd hs hm0 h1 (mp_stretchOf hd hs hm0 h2 ⟨by unfold am_rg; omega, by unfold am_rg; omega, fun e => ?_, fun e => ?_⟩)
  · rw [if_neg e] at H; exact H
  · rw [if_pos (by omega)] at H
    rw [hm0.2.2.2.2.1]
    exact mp_withinMany hd hm0 (by omega) h1.1 hab h2.2 H
theorem mp_ifThinned {w : Int} {D M : am_M} {Q : Int → am_M → Prop} {c : Int} (hd : OKd c D) (hs : OKs D) (hm : Mqr (M 70) D) (rw' : am_rg w)
    (x1 : ¬ (0 ≤ w ∧ w ≤ 2) → Rf M Q 1) (hq : 0 ≤ w ∧ w ≤ 2 → Ra M Q (chn D w (D 6 0))) : wp_X6_ifThinned w M Q := by
  have hm0 := Fp_hm hm
  exact mp_in rw' (by unfold am_rg; omega) (by unfold am_rg; omega) (fun h2 => ⟨by unfold am_rg; omega, fun e => absurd e (by omega), fun _ => mp_choose hd hs hm0 h2 (fun M1 f1 _ => Ra_a (hq h2) f1)⟩) (fun h2 => ⟨by unfold am_rg; omega, fun _ => Rf_a (x1 h2) Fq_r, fun e => absurd rfl e⟩)
theorem mp_leastOath {m : Int} {D M : am_M} {Q : Int → am_M → Prop} {c : Int} (hd : OKd c D) (hs : OKs D) (hm : Mqr (M 70) D) (rw' : am_rg m)
    (x1 : ¬ (0 ≤ m ∧ m ≤ 60) → Rf M Q 1) (hq : 0 ≤ m ∧ m ≤ 60 → Ra M Q (lo D m)) : wp_X6_leastOath m M Q := by
  have hm0 := Fp_hm hm
  exact mp_in rw' (by unfold am_rg; omega) (by unfold am_rg; omega) (fun h2 => ⟨by unfold am_rg; omega, fun e => absurd e (by omega), fun _ => mp_oathFor hd hs hm0 h2 (fun M1 f1 => Ra_a (hq h2) f1)⟩) (fun h2 => ⟨by unfold am_rg; omega, fun _ => Rf_a (x1 h2) Fq_r, fun e => absurd rfl e⟩)
theorem mp_cheapest {w : Int} {D M : am_M} {Q : Int → am_M → Prop} {c : Int} (hd : OKd c D) (hs : OKs D) (hm : Mqr (M 70) D) (rw' : am_rg w)
    (x1 : ¬ (0 ≤ w ∧ w ≤ 1) → Rf M Q 1) (hq : 0 ≤ w ∧ w ≤ 1 → Ra M Q (cpq D w)) : wp_X6_cheapest w M Q := by
  have hm0 := Fp_hm hm
  exact mp_in rw' (by unfold am_rg; omega) (by unfold am_rg; omega) (fun h2 => ⟨by unfold am_rg; omega, fun e => absurd e (by omega), fun _ => mp_missedLeast hd hs hm0 h2 (fun M1 f1 => Ra_a (hq h2) f1)⟩) (fun h2 => ⟨by unfold am_rg; omega, fun _ => Rf_a (x1 h2) Fq_r, fun e => absurd rfl e⟩)
theorem mp_share {D M : am_M} {Q : UInt64 → am_M → Prop} {c : Int} (hd : OKd c D) (hm : Mqr (M 70) D) (hq : Q (dsh D) M) : wp_X6_share M Q := by
  have n1 := hd.1
  have hv := (okv_1 (dsh_ok hd)).1
  unfold dsh at hq hv
  unfold wp_X6_share
  rw [hm.1]
  refine ⟨by unfold am_rg; omega, fun e => mp_keptMany hd hm ?_, fun e => ?_⟩
  · rw [if_neg e] at hq hv
    unfold shq at hq hv
    rw [hm.1]
    exact ⟨hv, hq⟩
  · rw [if_pos (by omega)] at hq
    exact hq
theorem mp_droppedShare {D M : am_M} {Q : UInt64 → am_M → Prop} {c : Int} (hd : OKd c D) (hm : Mqr (M 70) D) (hq : ∀ M', Fp M M' → M' 69 5 = 0 → Q (dsh D) M') : wp_X6_droppedShare M Q :=
  mp_share hd (Fp_hm hm) (hq _ (Fp_0 Fq_r).1 (Fp_0 Fq_r).2)
theorem mp_bits {v : UInt64} {M : am_M} {Q : Int → am_M → Prop} (h : okv v = true) (hq : Q (v.toInt64.toInt) M) : wp_Jxe99ae_doubleToLongBits_ccdee v M Q := by
  have h0 := (okv_1 h).2.2
  refine ⟨by rw [h0]; unfold am_rg; omega, fun _ => ⟨by unfold am_rg; omega, fun e => absurd rfl e, fun _ => hq⟩, fun e => absurd h0 e⟩
theorem mp_digest {t : Int → Int} {L : Int} {D M : am_M} {Q : Int → am_M → Prop} {c : Int} (hd : OKd c D) (hs : OKs D) (hm : Mqr (M 70) D) (hL : 0 ≤ L ∧ L ≤ 60) (e4 : M 69 4 = L) (et : ∀ i, 0 ≤ i → i < L → M 72 i = t i ∧ am_rg (t i)) (hz : am_rg (M 69 2)) (hq : Ra M Q (dg D (M 69 2) t L)) : wp_X6_digest M Q := by
  have n1 := hd.1
  have ho := hd.2.2.2.1
  have ho1 := hd.2.2.2.2.1
  have ho2 := hd.2.2.2.2.2.1
  have h8 := hd.2.2.2.2.2.2.1
  have hcs := cs_b hd hs
  have hm0 := Fp_hm hm
  have z2 : ∀ M1, Fq (am_up M 69 5 0) M1 → M1 69 2 = M 69 2 := fun M1 f => by rw [f.2 2 (by omega), am_up_n (by omega)]
  have z4 : ∀ M1, Fq (am_up M 69 5 0) M1 → M1 69 4 = L := fun M1 f => by rw [f.2 4 (by omega), am_up_n (by omega)]; exact e4
  have z72 : ∀ M1, Fq (am_up M 69 5 0) M1 → M1 72 = M 72 := fun M1 f => by rw [f.1 72 (by omega) (by omega), am_up_r (by omega)]
  have l328 : ∀ (r w : Nat) (M1 : am_M), (w : Int) + r = L → Fq (am_up M 69 5 0) M1 → wl_X6_digest_328 Q (r + 1) (hh t (31 * g7 D (M 69 2) + L) w) (w : Int) M1 := by
    intro r
    induction r with
    | zero =>
      intro w M1 hw f
      rw [wl_X6_digest_328, z4 M1 f]
      refine ⟨by unfold am_rg; omega, by unfold am_rg; omega, fun _ => ?_, fun e => absurd (by omega) e⟩
      rw [show w = L.toNat by omega]
      exact Ra_a hq f
    | succ r ih =>
      intro w M1 hw f
      obtain ⟨a, b⟩ := et (w : Int) (by omega) (by omega)
      rw [wl_X6_digest_328, z4 M1 f, z72 M1 f, a]
      exact ⟨by unfold am_rg; omega, by unfold am_rg; omega, fun e => absurd e (by omega), fun _ => ⟨by omega, b, ih (w + 1) M1 (by omega) f⟩⟩
  have l216 : ∀ (r w : Nat) (M1 : am_M), w + r = 3 → Fq (am_up M 69 5 0) M1 → wl_X6_digest_216 Q (r + 1) (hh (fun w => chn D w (D 6 0)) (g5 D (M 69 2)) w) (w : Int) M1 := by
    intro r
    induction r with
    | zero =>
      intro w M1 hw f
      have hw3 : w = 3 := by omega
      subst hw3
      have hl := lo_b D 10
      refine ⟨by unfold am_rg; omega, fun _ => ?_, fun e => absurd (by omega) e⟩
      refine mp_oathFor hd hs (Fq_m hm0 f) (by omega) (fun M2 f2 => ⟨by unfold am_rg; omega, ?_⟩)
      have f2' := Fq_t f f2
      refine mp_missedLeast hd hs (Fq_m hm0 f2') (by omega) (fun M3 f3 => ⟨cpq_b hd 0, ?_⟩)
      have f3' := Fq_t f2' f3
      refine mp_missedLeast hd hs (Fq_m hm0 f3') (by omega) (fun M4 f4 => ⟨cpq_b hd 1, ?_⟩)
      have f4' := Fq_t f3' f4
      have e5 : M4 69 5 = 0 := (Fp_0 f4').2
      have same : am_up M4 69 5 0 = M4 := by
        funext k j
        unfold am_up
        by_cases z : k = 69 ∧ j = 5
        · rw [if_pos z, z.1, z.2, e5]
        · rw [if_neg z]
      refine mp_area hd hs (Fq_m hm0 f4') (Or.inl rfl) ?_
      rw [same]
      refine mp_area hd hs (Fq_m hm0 f4') (Or.inr rfl) ?_
      rw [same]
      refine mp_share hd (Fq_m hm0 f4') (mp_bits (dsh_ok hd) ?_)
      rw [z4 M4 f4']
      exact ⟨by unfold am_rg; omega, _, l328 L.toNat 0 M4 (by omega) f4'⟩
    | succ r ih =>
      intro w M1 hw f
      have hb := chn_b hd (w : Int) (D 6 0)
      refine ⟨by unfold am_rg; omega, fun e => absurd e (by omega), fun _ => mp_choose hd hs (Fq_m hm0 f) (by omega) (fun M2 f2 _ => ⟨by unfold am_rg; omega, ih (w + 1) M2 (by omega) (Fq_t f f2)⟩)⟩
  have l178 : ∀ (r k : Nat) (M1 : am_M), (k : Int) + r = 3 * D 1 8 → Fq (am_up M 69 5 0) M1 → wl_X6_digest_178 Q (r + 1) (hh (fN D) (g4 D (M 69 2)) k) (k : Int) M1 := by
    intro r
    induction r with
    | zero =>
      intro k M1 hk f
      rw [wl_X6_digest_178, (Fq_m hm0 f).2.1]
      refine ⟨by unfold am_rg; omega, by unfold am_rg; omega, fun _ => ?_, fun e => absurd (by omega) e⟩
      have h := l216 3 0 M1 (by omega) f
      have e : g5 D (M 69 2) = hh (fN D) (g4 D (M 69 2)) k := by unfold g5; rw [show 3 * (D 1 8).toNat = k by omega]
      rw [← e]
      exact ⟨_, h⟩
    | succ r ih =>
      intro k M1 hk f
      have hk3 : 0 ≤ (k : Int) / 3 ∧ (k : Int) / 3 < D 1 8 := ⟨by omega, by omega⟩
      rw [wl_X6_digest_178, (Fq_m hm0 f).2.1]
      refine ⟨by unfold am_rg; omega, by unfold am_rg; omega, fun e => absurd e (by omega), fun _ => ⟨⟨by unfold am_rg; omega, by unfold am_rg; omega, by omega⟩, ⟨by unfold am_rg; omega, by unfold am_rg; omega, by omega⟩, ?_⟩⟩
      rw [Int.tdiv_eq_ediv_of_nonneg (by omega), Int.tmod_eq_emod_of_nonneg (by omega)]
      exact mp_aboutNote hd hs (Fq_m hm0 f) hk3 (by omega) (fun M2 f2 => ⟨nq_b hd hk3, ih (k + 1) M2 (by omega) (Fq_t f f2)⟩)
  have l142 : ∀ (r k : Nat) (M1 : am_M), (k : Int) + r = 5 * cs D → Fq (am_up M 69 5 0) M1 → wl_X6_digest_142 Q (r + 1) (hh (fS D) (g3 D (M 69 2)) k) (k : Int) M1 := by
    intro r
    induction r with
    | zero =>
      intro k M1 hk f
      refine mp_stretches hd hs (Fq_m hm0 f) ⟨by unfold am_rg; omega, by unfold am_rg; omega, fun _ => ?_, fun e => absurd (by omega) e⟩
      have h := l178 (3 * (D 1 8).toNat) 0 M1 (by omega) f
      have e : g4 D (M 69 2) = hh (fS D) (g3 D (M 69 2)) k := by unfold g4; rw [show 5 * (cs D).toNat = k by omega]
      rw [← e]
      exact ⟨_, h⟩
    | succ r ih =>
      intro k M1 hk f
      have hk5 : 0 ≤ (k : Int) / 5 ∧ (k : Int) / 5 < cs D := ⟨by omega, by omega⟩
      refine mp_stretches hd hs (Fq_m hm0 f) ⟨by unfold am_rg; omega, by unfold am_rg; omega, fun e => absurd e (by omega), fun _ => ⟨⟨by unfold am_rg; omega, by unfold am_rg; omega, by omega⟩, ⟨by unfold am_rg; omega, by unfold am_rg; omega, by omega⟩, ?_⟩⟩
      rw [Int.tdiv_eq_ediv_of_nonneg (by omega), Int.tmod_eq_emod_of_nonneg (by omega)]
      exact mp_aboutStretch hd hs (Fq_m hm0 f) hk5 (by omega) (fun M2 f2 => ⟨sq_b hd, ih (k + 1) M2 (by omega) (Fq_t f f2)⟩)
  have l80 : ∀ (k67 : Int → Int → am_M → Prop) (p : Nat), (p : Int) < D 1 7 → (∀ M2, Fq (am_up M 69 5 0) M2 → k67 (hh (fP D) (g2 D (M 69 2)) (10 * (p + 1))) ((p : Int) + 1) M2) → ∀ (r w : Nat) (M1 : am_M), w + r = 8 → Fq (am_up M 69 5 0) M1 → wl_X6_digest_80 Q k67 (r + 1) (hh (fP D) (g2 D (M 69 2)) (10 * p + w)) (p : Int) (w : Int) M1 := by
    intro k67 p hp hk r
    have hp' : 0 ≤ (p : Int) ∧ (p : Int) < D 1 7 := ⟨by omega, hp⟩
    induction r with
    | zero =>
      intro w M1 hw f
      have hw8 : w = 8 := by omega
      subst hw8
      refine ⟨by unfold am_rg; omega, fun _ => ?_, fun e => absurd (by omega) e⟩
      refine mp_errorOf hd hs (Fq_m hm0 f) hp' (by unfold am_rg; omega) (fun M2 f2 => ⟨eqq_b hd hp', ?_⟩)
      have f2' := Fq_t f f2
      refine mp_errorOf hd hs (Fq_m hm0 f2') hp' (by unfold am_rg; omega) (fun M3 f3 => ⟨eqq_b hd hp', ?_⟩)
      have H := hk M3 (Fq_t f2' f3)
      have e1 := fP_e (D := D) (p := p) (w := 0) (by omega)
      have e2 := fP_e (D := D) (p := p) (w := 1) (by omega)
      rw [show 10 * (p + 1) = 10 * p + 8 + 1 + 1 by omega, hh_s, hh_s] at H
      rw [show 10 * p + 8 + 0 = 10 * p + 8 by omega] at e1
      rw [e1, e2] at H
      exact H
    | succ r ih =>
      intro w M1 hw f
      refine ⟨by unfold am_rg; omega, fun e => absurd e (by omega), fun _ => mp_aboutPoint hd hs (Fq_m hm0 f) hp' (by omega) (fun M2 f2 => ⟨pq_b hd hs hp', ?_⟩)⟩
      have H := ih (w + 1) M2 (by omega) (Fq_t f f2)
      rw [show 10 * p + (w + 1) = 10 * p + w + 1 by omega, hh_s, fP_p (by omega)] at H
      exact H
  have l67 : ∀ (r p : Nat) (M1 : am_M), (p : Int) + r = D 1 7 → Fq (am_up M 69 5 0) M1 → wl_X6_digest_67 Q (r + 1) (hh (fP D) (g2 D (M 69 2)) (10 * p)) (p : Int) M1 := by
    intro r
    induction r with
    | zero =>
      intro p M1 hp f
      rw [wl_X6_digest_67, (Fq_m hm0 f).1]
      refine ⟨by unfold am_rg; omega, by unfold am_rg; omega, fun _ => ?_, fun e => absurd (by omega) e⟩
      have h := l142 (5 * (cs D).toNat) 0 M1 (by omega) f
      have e : g3 D (M 69 2) = hh (fP D) (g2 D (M 69 2)) (10 * p) := by unfold g3; rw [show (D 1 7).toNat = p by omega]
      rw [← e]
      exact ⟨_, h⟩
    | succ r ih =>
      intro p M1 hp f
      rw [wl_X6_digest_67, (Fq_m hm0 f).1]
      refine ⟨by unfold am_rg; omega, by unfold am_rg; omega, fun e => absurd e (by omega), fun _ => ⟨9, l80 _ p (by omega) (fun M2 f2 => ih (p + 1) M2 (by omega) f2) 8 0 M1 (by omega) f⟩⟩
  have l38 : ∀ (r w : Nat) (M1 : am_M), w + r = 3 → Fq (am_up M 69 5 0) M1 → wl_X6_digest_38 Q (r + 1) (hh (D 6) (hh (cq D (M 69 2)) 2381 11) w) (w : Int) M1 := by
    intro r
    induction r with
    | zero =>
      intro w M1 hw f
      have hw3 : w = 3 := by omega
      subst hw3
      exact ⟨by unfold am_rg; omega, fun _ => ⟨_, l67 (D 1 7).toNat 0 M1 (by omega) f⟩, fun e => absurd (by omega) e⟩
    | succ r ih =>
      intro w M1 hw f
      have hm1 := Fq_m hm0 f
      have e6 : M1 70 (4 + (w : Int)) = D 6 (w : Int) ∧ am_rg (D 6 (w : Int)) := by
        have hw3 : w = 0 ∨ w = 1 ∨ w = 2 := by omega
        rcases hw3 with z | z | z <;> subst z
        · refine ⟨?_, ?_⟩
          · show M1 70 4 = D 6 0
            exact hm1.2.2.2.2.1
          · show am_rg (D 6 0)
            unfold am_rg; omega
        · refine ⟨?_, ?_⟩
          · show M1 70 5 = D 6 1
            exact hm1.2.2.2.2.2.1
          · show am_rg (D 6 1)
            unfold am_rg; omega
        · refine ⟨?_, ?_⟩
          · show M1 70 6 = D 6 2
            exact hm1.2.2.2.2.2.2.1
          · show am_rg (D 6 2)
            unfold am_rg; omega
      rw [wl_X6_digest_38, e6.1]
      exact ⟨by unfold am_rg; omega, fun e => absurd e (by omega), fun _ => ⟨by omega, e6.2, ih (w + 1) M1 (by omega) f⟩⟩
  have l11 : ∀ (r w : Nat) (M1 : am_M), w + r = 11 → Fq (am_up M 69 5 0) M1 → wl_X6_digest_11 Q (r + 1) (hh (cq D (M 69 2)) 2381 w) (w : Int) M1 := by
    intro r
    induction r with
    | zero =>
      intro w M1 hw f
      have hw3 : w = 11 := by omega
      subst hw3
      exact ⟨by unfold am_rg; omega, fun _ => ⟨_, l38 3 0 M1 (by omega) f⟩, fun e => absurd (by omega) e⟩
    | succ r ih =>
      intro w M1 hw f
      refine ⟨by unfold am_rg; omega, fun e => absurd e (by omega), fun _ => mp_number hd hs (Fq_m hm0 f) (by omega) (fun M2 f2 => ?_)⟩
      rw [z2 M1 f]
      exact ⟨cq_b hd hs hz, ih (w + 1) M2 (by omega) (Fq_t f f2)⟩
  exact ⟨_, l11 11 0 _ (by omega) Fq_r⟩
