def lS (D : am_M) : Nat → Int
  | 0 => 0
  | i + 1 => if D 4 (i : Int) = 1 ∧ ek D (i : Int) ≠ -1 then (if lS D i < D 2 (i : Int) - D 2 (ek D (i : Int)) then D 2 (i : Int) - D 2 (ek D (i : Int)) else lS D i) else lS D i
theorem lS_b {c : Int} {D : am_M} (hd : OKd c D) : ∀ i : Nat, (i : Int) ≤ D 1 7 → 0 ≤ lS D i ∧ lS D i ≤ 9999
  | 0, _ => by unfold lS; omega
  | i + 1, h => by
    have ih := lS_b hd i (by omega)
    unfold lS
    by_cases z : D 4 (i : Int) = 1 ∧ ek D (i : Int) ≠ -1
    · rw [if_pos z]
      have he := ek_s (D := D) (a := (i : Int)) (by omega)
      have t1 := OKd_t hd (i := (i : Int)) (by omega) (by omega)
      have t2 := OKd_t hd (i := ek D (i : Int)) (by omega) (by omega)
      split <;> omega
    · rw [if_neg z]; exact ih
theorem dp_longestStep {D M : am_M} {Q : Int → am_M → Prop} {c : Int} (hd : OKd c D) (hs : OKs D) (hf : Fr8 D M) (hq : Q (lS D (D 1 7).toNat) M) : wp_X5_longestStep M Q := by
  have hd' := hd
  obtain ⟨⟨n0, n1⟩, -⟩ := hd'
  have e1 : M 1 7 = D 1 7 := congrFun (fr_1 hf) 7
  have loop : ∀ (r k : Nat), (k : Int) + r = D 1 7 → wl_X5_longestStep_7 Q (r + 1) (lS D k) (nn (kb D k)) (k : Int) M := by
    intro r
    induction r with
    | zero =>
      intro k hk
      refine ⟨by unfold am_rg; omega, by unfold am_rg; omega, fun _ => ?_, fun e => absurd e (by omega)⟩
      rw [show k = (D 1 7).toNat by omega]
      exact hq
    | succ r ih =>
      intro k hk
      have h := ih (k + 1) (by omega)
      have es : lS D (k + 1) = if D 4 (k : Int) = 1 ∧ ek D (k : Int) ≠ -1 then (if lS D k < D 2 (k : Int) - D 2 (ek D (k : Int)) then D 2 (k : Int) - D 2 (ek D (k : Int)) else lS D k) else lS D k := rfl
      have ekb : kb D (k + 1) = if D 4 (k : Int) = 1 then (k : Int) else kb D k := rfl
      have hkb := kb_s D k
      have hn := nn_s (kb D k)
      have hlb := lS_b hd k (by omega)
      have eek : ek D (k : Int) = if kb D k ≠ -1 ∧ D 5 (kb D k) = D 5 (k : Int) then kb D k else -1 := by unfold ek; rw [show ((k : Int)).toNat = k by omega]
      rw [es, ekb] at h
      refine ⟨by unfold am_rg; omega, by unfold am_rg; omega, fun e => absurd e (by omega), fun _ => ?_⟩
      refine dp_isKept hd hf (by unfold am_rg; omega) (fun y => ⟨by unfold am_rg; omega, fun e => absurd e (by omega), fun _ => ?_⟩) (fun y => ⟨by unfold am_rg; omega, fun _ => ?_, fun e => absurd rfl e⟩)
      · rw [if_pos y.2] at h
        have hnk : nn (k : Int) = (k : Int) := by unfold nn; rw [if_neg (by omega)]
        rw [hnk] at h
        refine dp_sameStretch hd hs hf (by unfold am_rg; omega) (by unfold am_rg; omega) (fun z => ⟨by unfold am_rg; omega, fun e => absurd e (by omega), fun _ => ?_⟩) (fun z => ⟨by unfold am_rg; omega, fun _ => ?_, fun e => absurd rfl e⟩)
        · have e3 : nn (kb D k) = kb D k := by omega
          rw [e3] at z ⊢
          rw [if_pos ⟨by omega, z.2.2⟩] at eek
          rw [eek, if_pos ⟨y.2, by omega⟩] at h
          have t1 := OKd_t hd (i := (k : Int)) (by omega) (by omega)
          have t2 := OKd_t hd (i := kb D k) (by omega) (by omega)
          rw [fr_2 hf]
          exact ⟨by omega, by omega, by unfold am_rg; omega, by unfold am_rg; omega, h⟩
        · have e3 : ek D (k : Int) = -1 := by
            rw [eek, if_neg]
            intro w
            rw [show nn (kb D k) = kb D k by omega] at z
            omega
          rw [e3, if_neg (fun w => w.2 rfl)] at h
          exact h
      · have nk : ¬ D 4 (k : Int) = 1 := fun z => y ⟨⟨by omega, by omega⟩, z⟩
        rw [if_neg nk, if_neg (fun z => nk z.1)] at h
        exact h
  exact ⟨_, loop (D 1 7).toNat 0 (by omega)⟩
/-- the counts; h: how many are saved -/
noncomputable def cq (D : am_M) (h w : Int) : Int := if w = 0 then D 1 7 else if w = 1 then kc D (D 1 7).toNat else if w = 2 then bm D 0 (D 1 7).toNat else if w = 3 then cs D else if w = 4 then D 1 8 else if w = 5 then tnm D (D 1 8).toNat else if w = 6 then gE D (D 1 7).toNat else if w = 7 then D 1 9 else if w = 8 then D 1 10 else if w = 9 then lS D (D 1 7).toNat else h
theorem dp_count {w : Int} {D M : am_M} {Q : Int → am_M → Prop} {X : am_X} {c : Int} (hd : OKd c D) (hs : OKs D) (hf : Fr8 D M) (hv : NV D M) (hw : am_rg w)
    (x0 : ¬ (0 ≤ w ∧ w ≤ 10) → X 0 M) (hq : 0 ≤ w ∧ w ≤ 10 → ∀ M', Ask D M M' → Q (cq D (M 14 2) w) M') : wp_X5_count w M Q X := by
  have hd' := hd
  obtain ⟨⟨n0, n1⟩, -⟩ := hd'
  refine dp_refuseOutside hw (by unfold am_rg; omega) (fun hw2 => ?_) x0
  have H := hq hw2
  unfold cq at H
  rw [fr_1 hf]
  refine ⟨hw, fun e => ?_, fun e => ?_, fun e => dp_keptPoints hd hf ?_, fun e => dp_brokenAmong hd hs hf hv n0 (Or.inl (Int.le_refl _)) (Or.inl (by omega)) (fun M' f => ?_), fun e => dp_stretchCount hd hs hf ?_, fun e => ?_, fun e => dp_trueNotes hd hs hf hv (fun M' f => ?_), fun e => dp_greatestError hd hs hf hv (fun M' f => ?_), fun e => ?_, fun e => ?_, fun e => dp_longestStep hd hs hf ?_⟩
  · have := H M (Ask_r hv)
    rw [if_neg (by omega), if_neg (by omega), if_neg (by omega), if_neg (by omega), if_neg (by omega), if_neg (by omega), if_neg (by omega), if_neg (by omega), if_neg (by omega), if_neg (by omega)] at this
    exact this
  · have := H M (Ask_r hv)
    rw [if_pos e] at this; exact this
  · have := H M (Ask_r hv)
    rw [if_neg (by omega), if_pos e] at this; exact this
  · have := H M' f
    rw [if_neg (by omega), if_neg (by omega), if_pos e] at this; exact this
  · have := H M (Ask_r hv)
    rw [if_neg (by omega), if_neg (by omega), if_neg (by omega), if_pos e] at this; exact this
  · have := H M (Ask_r hv)
    rw [if_neg (by omega), if_neg (by omega), if_neg (by omega), if_neg (by omega), if_pos e] at this; exact this
  · have := H M' f
    rw [if_neg (by omega), if_neg (by omega), if_neg (by omega), if_neg (by omega), if_neg (by omega), if_pos e] at this; exact this
  · have := H M' f
    rw [if_neg (by omega), if_neg (by omega), if_neg (by omega), if_neg (by omega), if_neg (by omega), if_neg (by omega), if_pos e] at this; exact this
  · have := H M (Ask_r hv)
    rw [if_neg (by omega), if_neg (by omega), if_neg (by omega), if_neg (by omega), if_neg (by omega), if_neg (by omega), if_neg (by omega), if_pos e] at this; exact this
  · have := H M (Ask_r hv)
    rw [if_neg (by omega), if_neg (by omega), if_neg (by omega), if_neg (by omega), if_neg (by omega), if_neg (by omega), if_neg (by omega), if_neg (by omega), if_pos e] at this; exact this
  · have := H M (Ask_r hv)
    rw [if_neg (by omega), if_neg (by omega), if_neg (by omega), if_neg (by omega), if_neg (by omega), if_neg (by omega), if_neg (by omega), if_neg (by omega), if_neg (by omega), if_pos e] at this; exact this
theorem dp_refuseNoSetting {s : Int} {M : am_M} {Q : am_M → Prop} {X : am_X} (h : am_rg s) (q : 0 ≤ s ∧ s < 3 → Q M) (x : ¬ (0 ≤ s ∧ s < 3) → X 2 M) : wp_X5_refuseNoSetting s M Q X :=
  ⟨h, fun e => x (by omega), fun e => ⟨h, fun e2 => q (by omega), fun e2 => x (by omega)⟩⟩
theorem dp_setting {s : Int} {D M : am_M} {Q : Int → am_M → Prop} {X : am_X} (hf : Fr8 D M) (h : am_rg s) (q : 0 ≤ s ∧ s < 3 → Q (D 6 s) M) (x : ¬ (0 ≤ s ∧ s < 3) → X 2 M) : wp_X5_setting s M Q X :=
  dp_refuseNoSetting h (fun z => ⟨z, by rw [fr_6 hf]; exact q z⟩) x
/-! areas -/
/-! what would be -/
theorem dp_whyNot {p : Int} {D M : am_M} {Q : Int → am_M → Prop} {X : am_X} {c : Int} (hd : OKd c D) (hs : OKs D) (hf : Fr8 D M) (hv : NV D M) (hp : am_rg p) (x2 : ¬ (0 ≤ p ∧ p < D 1 7) → X 2 M) (hq : 0 ≤ p ∧ p < D 1 7 → ∀ M', Ask D M M' → Q (rk D p) M') : wp_X5_whyNot p M Q X :=
  dp_refuseNoPoint hd hf hp (fun h => dp_reasonToKeep hd hs hf h (fun M' f => hq h M' (Ask_9 hv f))) x2
theorem dp_ifThinned {w : Int} {D M : am_M} {Q : Int → am_M → Prop} {X : am_X} {c : Int} (hd : OKd c D) (hs : OKs D) (hf : Fr8 D M) (hv : NV D M) (hw : am_rg w) (x0 : ¬ (0 ≤ w ∧ w ≤ 2) → X 0 M) (hq : 0 ≤ w ∧ w ≤ 2 → ∀ M', Ask D M M' → Q (chn D w (D 6 0)) M') : wp_X5_ifThinned w M Q X :=
  dp_refuseOutside hw (by unfold am_rg; omega) (fun h => dp_choose hd hs hf hv h (fun M' f1 f2 _ => hq h M' ⟨f1, f2⟩)) x0
noncomputable def lo (D : am_M) (m : Int) : Int := nn (fx (fun x => if fwS D x ≤ m then 1 else 0) 1 501 501)
theorem lo_u {D : am_M} {m r : Int} (h0 : 0 ≤ r) (h1 : r ≤ 500) (h2 : ∀ x, 0 ≤ x → x < r → m < fwS D x) (h3 : fwS D r ≤ m) : lo D m = r := by
  have h := fx_s (fun x => if fwS D x ≤ m then 1 else 0) 1 501 501
  have no : ∀ x, m < fwS D x → ¬ (if fwS D x ≤ m then (1 : Int) else 0) = 1 := fun x hx => by rw [if_neg (by omega)]; omega
  have yes : (if fwS D r ≤ m then (1 : Int) else 0) = 1 := if_pos h3
  unfold lo
  rcases h with ⟨-, h⟩ | ⟨a, b, d, e⟩
  · exact absurd yes (h r (by omega) (by omega))
  · have er : fx (fun x => if fwS D x ≤ m then 1 else 0) 1 501 501 = r := by
      by_cases z : fx (fun x => if fwS D x ≤ m then 1 else 0) 1 501 501 < r
      · exact absurd d (no _ (h2 _ (by omega) z))
      · by_cases y : r < fx (fun x => if fwS D x ≤ m then 1 else 0) 1 501 501
        · exact absurd yes (e r (by omega) y)
        · omega
    rw [er]; unfold nn; rw [if_neg (by omega)]
theorem lo_n {D : am_M} {m : Int} (h : ∀ x, 0 ≤ x → x ≤ 500 → m < fwS D x) : lo D m = -1000000 := by
  have g := fx_s (fun x => if fwS D x ≤ m then 1 else 0) 1 501 501
  unfold lo
  rcases g with ⟨g, -⟩ | ⟨a, b, d, e⟩
  · rw [g]; rfl
  · have := h _ (by omega) (show fx (fun x => if fwS D x ≤ m then 1 else 0) 1 501 501 ≤ 500 by omega)
    rw [if_neg (by omega)] at d
    omega
theorem dp_leastOath {m : Int} {D M : am_M} {Q : Int → am_M → Prop} {X : am_X} {c : Int} (hd : OKd c D) (hs : OKs D) (hf : Fr8 D M) (hv : NV D M) (hm : am_rg m) (x0 : ¬ (0 ≤ m ∧ m ≤ 60) → X 0 M) (hq : 0 ≤ m ∧ m ≤ 60 → ∀ M', Ask D M M' → Q (lo D m) M') : wp_X5_leastOath m M Q X := by
  refine dp_refuseOutside hm (by unfold am_rg; omega) (fun h => dp_leastOathFor hd hs hf hv h (fun M' r f1 f2 r0 r1 r2 r3 => ⟨by unfold am_rg; omega, fun e => ?_, fun e => ?_⟩)) x0
  · have := hq h M' ⟨f1, f2⟩
    rw [lo_n (fun x x0 x1 => r2 x x0 (by omega))] at this
    exact this
  · have := hq h M' ⟨f1, f2⟩
    rw [lo_u r0 (by omega) r2 (r3 (by omega))] at this
    exact this
def cpq (D : am_M) (w : Int) : Int := if (lmS D (D 1 7).toNat).1 = -1000000 ∨ w = 0 then (lmS D (D 1 7).toNat).1 else Int.tdiv (gm D (lmS D (D 1 7).toNat).1 + gs D (lmS D (D 1 7).toNat).1 - 1) (gs D (lmS D (D 1 7).toNat).1)
theorem dp_cheapest {w : Int} {D M : am_M} {Q : Int → am_M → Prop} {X : am_X} {c : Int} (hd : OKd c D) (hs : OKs D) (hf : Fr8 D M) (hv : NV D M) (hw : am_rg w) (x0 : ¬ (0 ≤ w ∧ w ≤ 1) → X 0 M) (hq : 0 ≤ w ∧ w ≤ 1 → ∀ M', Ask D M M' → Q (cpq D w) M') : wp_X5_cheapest w M Q X := by
  have hd' := hd
  obtain ⟨⟨n0, n1⟩, -⟩ := hd'
  refine dp_refuseOutside hw (by unfold am_rg; omega) (fun h => dp_leastMissed hd hs hf (fun M1 f1 => ?_)) x0
  have H := hq h
  have hl := (lm_b hd (D 1 7).toNat (by omega)).1
  unfold cpq at H
  generalize (lmS D (D 1 7).toNat).1 = b at *
  refine ⟨by unfold am_rg; omega, fun e => ?_, fun e => ⟨hw, fun e2 => ?_, fun e2 => ?_⟩⟩
  · have := H M1 (Ask_9 hv f1)
    rw [if_pos (Or.inl e)] at this
    exact this
  · have hb : 0 ≤ b ∧ b < D 1 7 ∧ rk D b = 0 := by
      rcases hl with z | z
      · exact absurd z e
      · exact ⟨z.1, by omega, z.2.2.1⟩
    have h0 := rk_0 ⟨hb.1, hb.2.1⟩ hb.2.2
    have hg := gm_b hd ⟨hb.1, hb.2.1⟩ hb.2.2
    have hf1 := Fx_f hf (by omega) f1
    refine dp_earlierKept hd hs hf1 ⟨hb.1, hb.2.1⟩ ?_
    refine dp_laterKept hd hs hf1 ⟨hb.1, hb.2.1⟩ ?_
    rw [h0.2.2.2.2.2.2.2.1, h0.2.2.2.2.2.2.2.2]
    refine dp_findWorst hd hs hf1 (by omega) (by omega) (by omega) (by omega) (fun M3 f3 v1 v2 => ?_)
    have v1' : M3 9 1 = gm D b := v1
    have v2' : M3 9 2 = gs D b := v2
    rw [v1', v2']
    have := H M3 (Ask_9 hv (Fx_t f1 f3))
    rw [if_neg (by omega)] at this
    exact dp_roundedUp hg.1 hg.2 this
  · have := H M1 (Ask_9 hv f1)
    rw [if_pos (Or.inr (by omega))] at this
    exact this
