def lS (D : am_M) : Nat → Int
  | 0 => 0
  | i + 1 => if D 4 (i : Int) = 1 ∧ ek D (i : Int) ≠ -1 then (if lS D i < D 2 (i : Int) - D 2 (ek D (i : Int)) then D 2 (i : Int) - D 2 (ek D (i : Int)) else lS D i) else lS D i
theorem lS_b {c : Int} {D : am_M} (hd : OKd c D) : ∀ i : Nat, (i : Int) ≤ D 1 7 → 0 ≤ lS D i ∧ lS D i ≤ 9999
  | 0, _ => by unfold lS; omega
  | i + 1, h => by
    have ih := lS_b hd i (by omega)
    unfold lS
    by_cases z : D 4 (i : Int) = 1 ∧ ek D (i : Int) ≠ -1
    · rw [if_pos z]
      have he := ek_s (D := D) (a := (i : Int)) (by omega)
      have t1 := OKd_t hd (i := (i : Int)) (by omega) (by omega)
      have t2 := OKd_t hd (i := ek D (i : Int)) (by omega) (by omega)
      split <;> omega
    · rw [if_neg z]; exact ih
theorem dp_longestStep {D M : am_M} {Q : Int → am_M → Prop} {c : Int} (hd : OKd c D) (hs : OKs D) (hf : Fr8 D M) (hq : Q (lS D (D 1 7).toNat) M) : wp_X5_longestStep M Q := by
  have hd' := hd
  obtain ⟨⟨n0, n1⟩, -⟩ := hd'
  have e1 : M 1 7 = D 1 7 := congrFun (fr_1 hf) 7
  have loop : ∀ (r k : Nat), (k : Int) + r = D 1 7 → wl_X5_longestStep_7 Q (r + 1) (lS D k) (nn (kb D k)) (k : Int) M := by
    intro r
    induction r with
    | zero =>
      intro k hk
      refine ⟨by unfold am_rg; omega, by unfold am_rg; omega, fun _ => ?_, fun e => absurd e (by omega)⟩
      rw [show k = (D 1 7).toNat by omega]
      exact hq
    | succ r ih =>
      intro k hk
      have h := ih (k + 1) (by omega)
      have es : lS D (k + 1) = if D 4 (k : Int) = 1 ∧ ek D (k : Int) ≠ -1 then (if lS D k < D 2 (k : Int) - D 2 (ek D (k : Int)) then D 2 (k : Int) - D 2 (ek D (k : Int)) else lS D k) else lS D k := rfl
      have ekb : kb D (k + 1) = if D 4 (k : Int) = 1 then (k : Int) else kb D k := rfl
      have hkb := kb_s D k
      have hn := nn_s (kb D k)
      have hlb := lS_b hd k (by omega)
      have eek : ek D (k : Int) = if kb D k ≠ -1 ∧ D 5 (kb D k) = D 5 (k : Int) then kb D k else -1 := by unfold ek; rw [show ((k : Int)).toNat = k by omega]
      rw [es, ekb] at h
      refine ⟨by unfold am_rg; omega, by unfold am_rg; omega, fun e => absurd e (by omega), fun _ => ?_⟩
      refine dp_isKept hd hf (by unfold am_rg; omega) (fun y => ⟨by unfold am_rg; omega, fun e => absurd e (by omega), fun _ => ?_⟩) (fun y => ⟨by unfold am_rg; omega, fun _ => ?_, fun e => absurd rfl e⟩)
      · rw [if_pos y.2] at h
        have hnk : nn (k : Int) = (k : Int) := by unfold nn; rw [if_neg (by omega)]
        rw [hnk] at h
        refine dp_sameStretch hd hs hf (by unfold am_rg; omega) (by unfold am_rg; omega) (fun z => ⟨by unfold am_rg; omega, fun e => absurd e (by omega), fun _ => ?_⟩) (fun z => ⟨by unfold am_rg; omega, fun _ => ?_, fun e => absurd rfl e⟩)
        · have e3 : nn (kb D k) = kb D k := by omega
          rw [e3] at z ⊢
          rw [if_pos ⟨by omega, z.2.2⟩] at eek
          rw [eek, if_pos ⟨y.2, by omega⟩] at h
          have t1 := OKd_t hd (i := (k : Int)) (by omega) (by omega)
          have t2 := OKd_t hd (i := kb D k) (by omega) (by omega)
          rw [fr_2 hf]
          exact ⟨by omega, by omega, by unfold am_rg; omega, by unfold am_rg; omega, h⟩
        · have e3 : ek D (k : Int) = -1 := by
            rw [eek, if_neg]
            intro w
            rw [show nn (kb D k) = kb D k by omega] at z
            omega
          rw [e3, if_neg (fun w => w.2 rfl)] at h
          exact h
      · have nk : ¬ D 4 (k : Int) = 1 := fun z => y ⟨⟨by omega, by omega⟩, z⟩
        rw [if_neg nk, if_neg (fun z => nk z.1)] at h
        exact h
  exact ⟨_, loop (D 1 7).toNat 0 (by omega)⟩
/-- the counts; h: how many are saved -/
noncomputable def cq (D : am_M) (h w : Int) : Int := if w = 0 then D 1 7 else if w = 1 then kc D (D 1 7).toNat else if w = 2 then bm D 0 (D 1 7).toNat else if w = 3 then cs D else if w = 4 then D 1 8 else if w = 5 then tnm D (D 1 8).toNat else if w = 6 then gE D (D 1 7).toNat else if w = 7 then D 1 9 else if w = 8 then D 1 10 else if w = 9 then lS D (D 1 7).toNat else h
theorem dp_count {w : Int} {D M : am_M} {Q : Int → am_M → Prop} {X : am_X} {c : Int} (hd : OKd c D) (hs : OKs D) (hf : Fr8 D M) (hv : NV D M) (hw : am_rg w)
    (x0 : ¬ (0 ≤ w ∧ w ≤ 10) → X 0 M) (hq : 0 ≤ w ∧ w ≤ 10 → ∀ M', Ask D M M' → Q (cq D (M 14 2) w) M') : wp_X5_count w M Q X := by
  have hd' := hd
  obtain ⟨⟨n0, n1⟩, -⟩ := hd'
  refine dp_refuseOutside hw (by unfold am_rg; omega) (fun hw2 => ?_) x0
  have H := hq hw2
  unfold cq at H
  rw [fr_1 hf]
  refine ⟨hw, fun e => ?_, fun e => ?_, fun e => dp_keptPoints hd hf ?_, fun e => dp_brokenAmong hd hs hf hv n0 (Or.inl (Int.le_refl _)) (Or.inl (by omega)) (fun M' f => ?_), fun e => dp_stretchCount hd hs hf ?_, fun e => ?_, fun e => dp_trueNotes hd hs hf hv (fun M' f => ?_), fun e => dp_greatestError hd hs hf hv (fun M' f => ?_), fun e => ?_, fun e => ?_, fun e => dp_longestStep hd hs hf ?_⟩
  · have := H M (Ask_r hv)
    rw [if_neg (by omega), if_neg (by omega), if_neg (by omega), if_neg (by omega), if_neg (by omega), if_neg (by omega), if_neg (by omega), if_neg (by omega), if_neg (by omega), if_neg (by omega)] at this
    exact this
  · have := H M (Ask_r hv)
    rw [if_pos e] at this; exact this
  · have := H M (Ask_r hv)
    rw [if_neg (by omega), if_pos e] at this; exact this
  · have := H M' f
    rw [if_neg (by omega), if_neg (by omega), if_pos e] at this; exact this
  · have := H M (Ask_r hv)
    rw [if_neg (by omega), if_neg (by omega), if_neg (by omega), if_pos e] at this; exact this
  · have := H M (Ask_r hv)
    rw [if_neg (by omega), if_neg (by omega), if_neg (by omega), if_neg (by omega), if_pos e] at this; exact this
  · have := H M' f
    rw [if_neg (by omega), if_neg (by omega), if_neg (by omega), if_neg (by omega), if_neg (by omega), if_pos e] at this; exact this
  · have := H M' f
    rw [if_neg (by omega), if_neg (by omega), if_neg (by omega), if_neg (by omega), if_neg (by omega), if_neg (by omega), if_pos e] at this; exact this
  · have := H M (Ask_r hv)
    rw [if_neg (by omega), if_neg (by omega), if_neg (by omega), if_neg (by omega), if_neg (by omega), if_neg (by omega), if_neg (by omega), if_pos e] at this; exact this
  · have := H M (Ask_r hv)
    rw [if_neg (by omega), if_neg (by omega), if_neg (by omega), if_neg (by omega), if_neg (by omega), if_neg (by omega), if_neg (by omega), if_neg (by omega), if_pos e] at this; exact this
  · have := H M (Ask_r hv)
    rw [if_neg (by omega), if_neg (by omega), if_neg (by omega), if_neg (by omega), if_neg (by omega), if_neg (by omega), if_neg (by omega), if_neg (by omega), if_neg (by omega), if_pos e] at this; exact this
theorem dp_refuseNoSetting {s : Int} {M : am_M} {Q : am_M → Prop} {X : am_X} (h : am_rg s) (q : 0 ≤ s ∧ s < 3 → Q M) (x : ¬ (0 ≤ s ∧ s < 3) → X 2 M) : wp_X5_refuseNoSetting s M Q X :=
  ⟨h, fun e => x (by omega), fun e => ⟨h, fun e2 => q (by omega), fun e2 => x (by omega)⟩⟩
theorem dp_setting {s : Int} {D M : am_M} {Q : Int → am_M → Prop} {X : am_X} (hf : Fr8 D M) (h : am_rg s) (q : 0 ≤ s ∧ s < 3 → Q (D 6 s) M) (x : ¬ (0 ≤ s ∧ s < 3) → X 2 M) : wp_X5_setting s M Q X :=
  dp_refuseNoSetting h (fun z => ⟨z, by rw [fr_6 hf]; exact q z⟩) x
/-! areas -/
def abt (D : am_M) (a b : Int) : Int := if a ≠ -1 ∧ D 5 a = D 5 b then (D 3 a + (if D 6 2 = 1 then D 3 a else D 3 b)) * (D 2 b - D 2 a) else 0
def pvv (D : am_M) (w : Int) (i : Nat) : Int := if w = 0 then kb D i else (i : Int) - 1
def arS (D : am_M) (w : Int) : Nat → Int
  | 0 => 0
  | i + 1 => if w ≠ 0 ∨ D 4 (i : Int) = 1 then arS D w i + abt D (pvv D w i) (i : Int) else arS D w i
theorem dp_areaBetween {a b : Int} {D M : am_M} {Q : Int → am_M → Prop} {c : Int} (hd : OKd c D) (hs : OKs D) (hf : Fr8 D M) (ha : a = -1 ∨ (0 ≤ a ∧ a < b)) (hb : 0 ≤ b ∧ b < D 1 7) (hq : Q (abt D a b) M) : wp_X5_areaBetween (nn a) b M Q := by
  have hd' := hd
  obtain ⟨⟨n0, n1⟩, -⟩ := hd'
  have hn := nn_s a
  unfold abt at hq
  refine dp_sameStretch hd hs hf (by unfold am_rg; omega) (by unfold am_rg; omega) (fun y => ⟨by unfold am_rg; omega, fun _ => ?_, fun e => absurd e (by omega)⟩) (fun y => ⟨by unfold am_rg; omega, fun e => absurd rfl e, fun _ => ?_⟩)
  · have e3 : nn a = a := by omega
    rw [e3] at y ⊢
    have v1 := OKd_v hd y.1.1 y.1.2
    have v2 := OKd_v hd hb.1 hb.2
    have t1 := OKd_t hd y.1.1 y.1.2
    have t2 := OKd_t hd hb.1 hb.2
    rw [if_pos ⟨by omega, y.2.2⟩] at hq
    rw [fr_3 hf]
    refine ⟨by omega, by unfold am_rg; omega, dp_isStep hd hf (fun z => ⟨by unfold am_rg; omega, fun e => absurd e (by omega), fun _ => ?_⟩) (fun z => ⟨by unfold am_rg; omega, fun _ => ⟨by omega, by rw [fr_3 hf]; unfold am_rg; omega, ?_⟩, fun e => absurd rfl e⟩)⟩
    · rw [if_pos z] at hq
      unfold wj_X5_areaBetween_49
      rw [fr_2 hf]
      exact ⟨by omega, by omega, by unfold am_rg; omega, hq⟩
    · rw [if_neg (by omega)] at hq
      unfold wj_X5_areaBetween_49
      rw [fr_2 hf, fr_3 hf]
      exact ⟨by omega, by omega, by unfold am_rg; omega, hq⟩
  · rw [if_neg] at hq
    · exact hq
    · intro w
      rw [show nn a = a by omega] at y
      omega
theorem dp_area {w : Int} {D M : am_M} {Q : Int → am_M → Prop} {c : Int} (hd : OKd c D) (hs : OKs D) (hf : Fr8 D M) (hw : w = 0 ∨ w = 1) (hq : Q (arS D w (D 1 7).toNat) M) : wp_X5_area w M Q := by
  have hd' := hd
  obtain ⟨⟨n0, n1⟩, -⟩ := hd'
  have e1 : M 1 7 = D 1 7 := congrFun (fr_1 hf) 7
  have loop : ∀ (r k : Nat), (k : Int) + r = D 1 7 → wl_X5_area_9 Q (r + 1) w (arS D w k) (nn (pvv D w k)) (k : Int) M := by
    intro r
    induction r with
    | zero =>
      intro k hk
      refine ⟨by unfold am_rg; omega, by unfold am_rg; omega, fun _ => ?_, fun e => absurd e (by omega)⟩
      rw [show k = (D 1 7).toNat by omega]
      exact hq
    | succ r ih =>
      intro k hk
      have h := ih (k + 1) (by omega)
      have es : arS D w (k + 1) = if w ≠ 0 ∨ D 4 (k : Int) = 1 then arS D w k + abt D (pvv D w k) (k : Int) else arS D w k := rfl
      have hkb := kb_s D k
      have ekb : kb D (k + 1) = if D 4 (k : Int) = 1 then (k : Int) else kb D k := rfl
      have hp : pvv D w k = -1 ∨ (0 ≤ pvv D w k ∧ pvv D w k < (k : Int)) := by unfold pvv; split <;> omega
      have take : w ≠ 0 ∨ D 4 (k : Int) = 1 → wj_X5_area_37 Q (wl_X5_area_9 Q (r + 1)) w (arS D w k) (nn (pvv D w k)) (k : Int) M := by
        intro z
        rw [es, if_pos z] at h
        have ep : nn (pvv D w (k + 1)) = (k : Int) := by
          have : pvv D w (k + 1) = (k : Int) := by
            unfold pvv
            by_cases y : w = 0
            · rw [if_pos y, ekb, if_pos (by omega)]
            · rw [if_neg y]; omega
          rw [this]; unfold nn; rw [if_neg (by omega)]
        rw [ep] at h
        exact dp_areaBetween hd hs hf hp ⟨by omega, by omega⟩ h
      refine ⟨by unfold am_rg; omega, by unfold am_rg; omega, fun e => absurd e (by omega), fun _ => ⟨by unfold am_rg; omega, fun z => take (Or.inl z), fun z => dp_isKept hd hf (by unfold am_rg; omega) (fun y => ⟨by unfold am_rg; omega, fun e => absurd e (by omega), fun _ => take (Or.inr y.2)⟩) (fun y => ⟨by unfold am_rg; omega, fun _ => ?_, fun e => absurd rfl e⟩)⟩⟩
      have nk : ¬ D 4 (k : Int) = 1 := fun z => y ⟨⟨by omega, by omega⟩, z⟩
      have ep : pvv D w (k + 1) = pvv D w k := by unfold pvv; rw [if_pos (by omega), if_pos (by omega), ekb, if_neg nk]
      rw [es, if_neg (by omega), ep] at h
      exact h
  have h := loop (D 1 7).toNat 0 (by omega)
  have e0 : nn (pvv D w 0) = -1000000 := by
    have : pvv D w 0 = -1 := by unfold pvv kb; split <;> omega
    rw [this]; rfl
  rw [e0] at h
  exact ⟨_, h⟩
/-! what would be -/
theorem dp_whyNot {p : Int} {D M : am_M} {Q : Int → am_M → Prop} {X : am_X} {c : Int} (hd : OKd c D) (hs : OKs D) (hf : Fr8 D M) (hv : NV D M) (hp : am_rg p) (x2 : ¬ (0 ≤ p ∧ p < D 1 7) → X 2 M) (hq : 0 ≤ p ∧ p < D 1 7 → ∀ M', Ask D M M' → Q (rk D p) M') : wp_X5_whyNot p M Q X :=
  dp_refuseNoPoint hd hf hp (fun h => dp_reasonToKeep hd hs hf h (fun M' f => hq h M' (Ask_9 hv f))) x2
def wn (D : am_M) (a b : Int) : Nat → Int := sm (fun m => if sp_mi D a b (a + 1 + m) ≤ D 6 0 * sp_span D a b then 1 else 0)
def jq (D : am_M) (a b : Int) : Int := if D 5 a = D 5 b then wn D a b (b - a - 1).toNat else -1000000
theorem dp_join {a b : Int} {D M : am_M} {Q : Int → am_M → Prop} {X : am_X} {c : Int} (hd : OKd c D) (hs : OKs D) (hf : Fr8 D M) (hv : NV D M) (ha : am_rg a) (hb : am_rg b)
    (x2 : ¬ ((0 ≤ a ∧ a < D 1 7) ∧ (0 ≤ b ∧ b < D 1 7)) → X 2 M) (x0 : (0 ≤ a ∧ a < D 1 7) ∧ (0 ≤ b ∧ b < D 1 7) → b ≤ a → X 0 M) (hq : 0 ≤ a → a < b → b < D 1 7 → ∀ M', Ask D M M' → Q (jq D a b) M') : wp_X5_join a b M Q X := by
  have hd' := hd
  obtain ⟨⟨n0, n1⟩, -⟩ := hd'
  refine dp_refuseNoPoint hd hf ha (fun h1 => dp_refuseNoPoint hd hf hb (fun h2 => ⟨hb, ha, fun hab => ?_, fun hab => x0 ⟨h1, h2⟩ (by omega)⟩) (fun z => x2 (fun y => z y.2))) (fun z => x2 (fun y => z y.1))
  have H := hq h1.1 hab h2.2
  unfold jq at H
  refine dp_sameStretch hd hs hf ha hb (fun y => ⟨by unfold am_rg; omega, fun _ => ?_, fun e => absurd e (by omega)⟩) (fun y => ⟨by unfold am_rg; omega, fun e => absurd rfl e, fun _ => ?_⟩)
  · rw [if_pos y.2.2] at H
    have loop : ∀ (r k : Nat) (M1 : am_M), a + 1 + (k : Int) + r = b → Fx 9 M M1 → wl_X5_join_48 Q X (r + 1) a b (wn D a b k) (a + 1 + (k : Int)) M1 := by
      intro r
      induction r with
      | zero =>
        intro k M1 hk f
        refine ⟨by unfold am_rg; omega, by unfold am_rg; omega, fun _ => ?_, fun e => absurd e (by omega)⟩
        rw [show k = (b - a - 1).toNat by omega]
        exact H M1 (Ask_9 hv f)
      | succ r ih =>
        intro k M1 hk f
        have es : wn D a b (k + 1) = wn D a b k + (if sp_mi D a b (a + 1 + (k : Int)) ≤ D 6 0 * sp_span D a b then 1 else 0) := rfl
        refine ⟨by unfold am_rg; omega, by unfold am_rg; omega, fun e => absurd e (by omega), fun _ => ?_⟩
        refine dp_isWithin hd hs (Fx_f hf (by omega) f) h1.1 hab h2.2 y.2.2 (by omega) (by omega) (st_eq hs h1.1 (by omega) (by omega) h2.2 y.2.2).symm (fun z M2 f2 => ⟨by unfold am_rg; omega, fun e => absurd e (by omega), fun _ => ?_⟩) (fun z M2 f2 => ⟨by unfold am_rg; omega, fun _ => ?_, fun e => absurd rfl e⟩)
        · have h := ih (k + 1) M2 (by omega) (Fx_t f f2)
          rw [es, if_pos z, show a + 1 + ((k + 1 : Nat) : Int) = a + 1 + (k : Int) + 1 by omega] at h
          exact h
        · have h := ih (k + 1) M2 (by omega) (Fx_t f f2)
          rw [es, if_neg z, Int.add_zero, show a + 1 + ((k + 1 : Nat) : Int) = a + 1 + (k : Int) + 1 by omega] at h
          exact h
    have h := loop (b - a - 1).toNat 0 M (by omega) Fx_r
    rw [show a + 1 + ((0 : Nat) : Int) = a + 1 by omega] at h
    exact ⟨_, h⟩
  · rw [if_neg (fun z => y ⟨h1, h2, z⟩)] at H
    exact H M (Ask_r hv)
theorem dp_ifThinned {w : Int} {D M : am_M} {Q : Int → am_M → Prop} {X : am_X} {c : Int} (hd : OKd c D) (hs : OKs D) (hf : Fr8 D M) (hv : NV D M) (hw : am_rg w) (x0 : ¬ (0 ≤ w ∧ w ≤ 2) → X 0 M) (hq : 0 ≤ w ∧ w ≤ 2 → ∀ M', Ask D M M' → Q (chn D w (D 6 0)) M') : wp_X5_ifThinned w M Q X :=
  dp_refuseOutside hw (by unfold am_rg; omega) (fun h => dp_choose hd hs hf hv h (fun M' f1 f2 _ => hq h M' ⟨f1, f2⟩)) x0
noncomputable def lo (D : am_M) (m : Int) : Int := nn (fx (fun x => if fwS D x ≤ m then 1 else 0) 1 501 501)
theorem lo_u {D : am_M} {m r : Int} (h0 : 0 ≤ r) (h1 : r ≤ 500) (h2 : ∀ x, 0 ≤ x → x < r → m < fwS D x) (h3 : fwS D r ≤ m) : lo D m = r := by
  have h := fx_s (fun x => if fwS D x ≤ m then 1 else 0) 1 501 501
  have no : ∀ x, m < fwS D x → ¬ (if fwS D x ≤ m then (1 : Int) else 0) = 1 := fun x hx => by rw [if_neg (by omega)]; omega
  have yes : (if fwS D r ≤ m then (1 : Int) else 0) = 1 := if_pos h3
  unfold lo
  rcases h with ⟨-, h⟩ | ⟨a, b, d, e⟩
  · exact absurd yes (h r (by omega) (by omega))
  · have er : fx (fun x => if fwS D x ≤ m then 1 else 0) 1 501 501 = r := by
      by_cases z : fx (fun x => if fwS D x ≤ m then 1 else 0) 1 501 501 < r
      · exact absurd d (no _ (h2 _ (by omega) z))
      · by_cases y : r < fx (fun x => if fwS D x ≤ m then 1 else 0) 1 501 501
        · exact absurd yes (e r (by omega) y)
        · omega
    rw [er]; unfold nn; rw [if_neg (by omega)]
theorem lo_n {D : am_M} {m : Int} (h : ∀ x, 0 ≤ x → x ≤ 500 → m < fwS D x) : lo D m = -1000000 := by
  have g := fx_s (fun x => if fwS D x ≤ m then 1 else 0) 1 501 501
  unfold lo
  rcases g with ⟨g, -⟩ | ⟨a, b, d, e⟩
  · rw [g]; rfl
  · have := h _ (by omega) (show fx (fun x => if fwS D x ≤ m then 1 else 0) 1 501 501 ≤ 500 by omega)
    rw [if_neg (by omega)] at d
    omega
theorem dp_leastOath {m : Int} {D M : am_M} {Q : Int → am_M → Prop} {X : am_X} {c : Int} (hd : OKd c D) (hs : OKs D) (hf : Fr8 D M) (hv : NV D M) (hm : am_rg m) (x0 : ¬ (0 ≤ m ∧ m ≤ 60) → X 0 M) (hq : 0 ≤ m ∧ m ≤ 60 → ∀ M', Ask D M M' → Q (lo D m) M') : wp_X5_leastOath m M Q X := by
  refine dp_refuseOutside hm (by unfold am_rg; omega) (fun h => dp_leastOathFor hd hs hf hv h (fun M' r f1 f2 r0 r1 r2 r3 => ⟨by unfold am_rg; omega, fun e => ?_, fun e => ?_⟩)) x0
  · have := hq h M' ⟨f1, f2⟩
    rw [lo_n (fun x x0 x1 => r2 x x0 (by omega))] at this
    exact this
  · have := hq h M' ⟨f1, f2⟩
    rw [lo_u r0 (by omega) r2 (r3 (by omega))] at this
    exact this
def cpq (D : am_M) (w : Int) : Int := if (lmS D (D 1 7).toNat).1 = -1000000 ∨ w = 0 then (lmS D (D 1 7).toNat).1 else Int.tdiv (gm D (lmS D (D 1 7).toNat).1 + gs D (lmS D (D 1 7).toNat).1 - 1) (gs D (lmS D (D 1 7).toNat).1)
theorem dp_cheapest {w : Int} {D M : am_M} {Q : Int → am_M → Prop} {X : am_X} {c : Int} (hd : OKd c D) (hs : OKs D) (hf : Fr8 D M) (hv : NV D M) (hw : am_rg w) (x0 : ¬ (0 ≤ w ∧ w ≤ 1) → X 0 M) (hq : 0 ≤ w ∧ w ≤ 1 → ∀ M', Ask D M M' → Q (cpq D w) M') : wp_X5_cheapest w M Q X := by
  have hd' := hd
  obtain ⟨⟨n0, n1⟩, -⟩ := hd'
  refine dp_refuseOutside hw (by unfold am_rg; omega) (fun h => dp_leastMissed hd hs hf (fun M1 f1 => ?_)) x0
  have H := hq h
  have hl := (lm_b hd (D 1 7).toNat (by omega)).1
  unfold cpq at H
  generalize (lmS D (D 1 7).toNat).1 = b at *
  refine ⟨by unfold am_rg; omega, fun e => ?_, fun e => ⟨hw, fun e2 => ?_, fun e2 => ?_⟩⟩
  · have := H M1 (Ask_9 hv f1)
    rw [if_pos (Or.inl e)] at this
    exact this
  · have hb : 0 ≤ b ∧ b < D 1 7 ∧ rk D b = 0 := by
      rcases hl with z | z
      · exact absurd z e
      · exact ⟨z.1, by omega, z.2.2.1⟩
    have h0 := rk_0 ⟨hb.1, hb.2.1⟩ hb.2.2
    have hg := gm_b hd ⟨hb.1, hb.2.1⟩ hb.2.2
    have hf1 := Fx_f hf (by omega) f1
    refine dp_earlierKept hd hs hf1 ⟨hb.1, hb.2.1⟩ ?_
    refine dp_laterKept hd hs hf1 ⟨hb.1, hb.2.1⟩ ?_
    rw [h0.2.2.2.2.2.2.2.1, h0.2.2.2.2.2.2.2.2]
    refine dp_findWorst hd hs hf1 (by omega) (by omega) (by omega) (by omega) (fun M3 f3 v1 v2 => ?_)
    have v1' : M3 9 1 = gm D b := v1
    have v2' : M3 9 2 = gs D b := v2
    rw [v1', v2']
    have := H M3 (Ask_9 hv (Fx_t f1 f3))
    rw [if_neg (by omega)] at this
    exact dp_roundedUp hg.1 hg.2 this
  · have := H M1 (Ask_9 hv f1)
    rw [if_pos (Or.inr (by omega))] at this
    exact this
