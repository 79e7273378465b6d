/-! the share, its bits, the digest -/
def vfb (r : UInt64) : Bool := decide (r &&& 0x7fffffffffffffff ≤ 0x7ff0000000000000)
theorem vfb_t {r : UInt64} (h : vfb r = true) : vf_n64 r := by
  unfold vf_n64
  exact of_decide_eq_true h
def rgb (x : Int) : Bool := decide (-2147483648 ≤ x) && decide (x ≤ 2147483647)
def bte (v2 : UInt64) (v4 : Int) : Option Int := match vfb (FP.dsub v2 FP.dconst1), vfb (FP.dmul (FP.dsub v2 FP.dconst1) 4841369599423283200) with
  | true, true => some (((Int64.ofInt v4 <<< ((Int32.ofInt 52).toInt64 &&& 63)).toInt) + ((FP.d2l (FP.dmul (FP.dsub v2 FP.dconst1) 4841369599423283200)).toInt))
  | _, _ => none
def btl : Nat → UInt64 → Int → Option Int
  | 0, _, _ => none
  | n + 1, v2, v4 => match rgb ((Op.cmpValue (FP.dcmp v2 FP.dconst1) .g).toInt), decide (0 ≤ ((Op.cmpValue (FP.dcmp v2 FP.dconst1) .g).toInt)), vfb (FP.dmul v2 4611686018427387904) with
    | true, true, _ => bte v2 v4
    | true, false, true => btl n (FP.dmul v2 4611686018427387904) (v4 - 1)
    | _, _, _ => none
theorem bte_s {v2 : UInt64} {v4 r : Int} {M : am_M} {Q : Int → am_M → Prop} (h : bte v2 v4 = some r) (hq : Q r M) : wj_X5_bitsOf_49 Q v2 v4 M := by
  unfold bte at h
  split at h
  next e1 e2 =>
    have e := Option.some.inj h
    subst e
    exact ⟨vfb_t e1, vfb_t e2, hq⟩
  next => cases h
theorem btl_s {M : am_M} {Q : Int → am_M → Prop} {r : Int} (hq : Q r M) : ∀ (n : Nat) (v2 : UInt64) (v4 v6 : Int), btl n v2 v4 = some r → 0 ≤ v6 → v6 + (n : Int) ≤ 64 → wl_X5_bitsOf_18 Q n v2 v4 v6 M
  | 0, v2, v4, v6, h, _, _ => by unfold btl at h; cases h
  | n + 1, v2, v4, v6, h, h0, h1 => by
    unfold btl at h
    split at h
    next e1 e2 =>
      exact ⟨by unfold am_rg; omega, fun e => absurd e (by omega), fun _ => ⟨am_rgd e1, fun _ => bte_s h hq, fun e => absurd (of_decide_eq_true e2) e⟩⟩
    next e1 e2 e3 =>
      exact ⟨by unfold am_rg; omega, fun e => absurd e (by omega), fun _ => ⟨am_rgd e1, fun e => absurd e (of_decide_eq_false e2), fun _ => ⟨vfb_t e3, btl_s hq n _ _ (v6 + 1) h (by omega) (by omega)⟩⟩⟩
    next => cases h
def bto (v : UInt64) : Option Int := match rgb ((Op.cmpValue (FP.dcmp v FP.dconst0) .l).toInt), decide (0 < ((Op.cmpValue (FP.dcmp v FP.dconst0) .l).toInt)) with
  | true, true => btl 64 v 1023
  | true, false => some 0
  | _, _ => none
theorem sp_bitsOf {v : UInt64} {r : Int} {M : am_M} {Q : Int → am_M → Prop} (h : bto v = some r) (hq : Q r M) : wp_X5_bitsOf v M Q := by
  unfold bto at h
  split at h
  next e1 e2 => exact ⟨am_rgd e1, fun _ => ⟨64, btl_s hq 64 v 1023 0 h (by omega) (by omega)⟩, fun e => absurd (of_decide_eq_true e2) e⟩
  next e1 e2 => cases h; exact ⟨am_rgd e1, fun e => absurd e (of_decide_eq_false e2), fun _ => hq⟩
  next => cases h
def shq (a b : Int) : UInt64 := FP.ddiv (FP.i2d (Int32.ofInt a)) (FP.i2d (Int32.ofInt b))
def okv (v : UInt64) : Bool := vfb v && (decide (bto v = some (v.toInt64.toInt)) && decide ((Op.cmpValue (FP.dcmp v v) .l).toInt = 0))
theorem shq_ok : ∀ b : Nat, b < 61 → ∀ a : Nat, a < b + 1 → (b = 0 ∨ okv (shq (a : Int) (b : Int)) = true) := by decide +kernel
theorem okv_0 : okv FP.dconst0 = true := by decide +kernel
def dsh (D : am_M) : UInt64 := if D 1 7 = 0 then FP.dconst0 else shq (D 1 7 - kc D (D 1 7).toNat) (D 1 7)
theorem dsh_ok {c : Int} {D : am_M} (hd : OKd c D) : okv (dsh D) = true := by
  have hd' := hd
  obtain ⟨⟨n0, n1⟩, -⟩ := hd'
  have hk := kc_b hd (D 1 7).toNat (by omega)
  unfold dsh
  by_cases z : D 1 7 = 0
  · rw [if_pos z]; exact okv_0
  · rw [if_neg z]
    have h := shq_ok (D 1 7).toNat (by omega) (D 1 7 - kc D (D 1 7).toNat).toNat (by omega)
    rw [show (((D 1 7 - kc D (D 1 7).toNat).toNat : Nat) : Int) = D 1 7 - kc D (D 1 7).toNat by omega, show (((D 1 7).toNat : Nat) : Int) = D 1 7 by omega] at h
    rcases h with h | h
    · omega
    · exact h
theorem okv_1 {v : UInt64} (h : okv v = true) : vf_n64 v ∧ bto v = some (v.toInt64.toInt) ∧ (Op.cmpValue (FP.dcmp v v) .l).toInt = 0 := by
  unfold okv at h
  rw [Bool.and_eq_true, Bool.and_eq_true] at h
  exact ⟨vfb_t h.1, of_decide_eq_true h.2.1, of_decide_eq_true h.2.2⟩
theorem dp_droppedShare {D M : am_M} {Q : UInt64 → am_M → Prop} {c : Int} (hd : OKd c D) (hf : Fr8 D M) (hq : Q (dsh D) M) : wp_X5_droppedShare M Q := by
  have hd' := hd
  obtain ⟨⟨n0, n1⟩, -⟩ := hd'
  have hv := (okv_1 (dsh_ok hd)).1
  unfold dsh at hq hv
  unfold wp_X5_droppedShare
  rw [fr_1 hf]
  refine ⟨by unfold am_rg; omega, fun e => dp_keptPoints hd hf ?_, fun e => ?_⟩
  · rw [if_neg e] at hq hv
    unfold shq at hq hv
    rw [fr_1 hf]
    exact ⟨hv, hq⟩
  · rw [if_pos (by omega)] at hq
    exact hq
theorem dp_bitsOf {D M : am_M} {Q : Int → am_M → Prop} {c : Int} (hd : OKd c D) (hq : Q ((dsh D).toInt64.toInt) M) : wp_X5_bitsOf (dsh D) M Q :=
  sp_bitsOf (okv_1 (dsh_ok hd)).2.1 hq
/-! all answers are ints -/
theorem rk_b (D : am_M) (p : Int) : 0 ≤ rk D p ∧ rk D p ≤ 3 := by
  unfold rk
  (repeat' split) <;> omega
theorem pq_b {c : Int} {D : am_M} (hd : OKd c D) (hs : OKs D) {p w : Int} (hp : 0 ≤ p ∧ p < D 1 7) : am_rg (pq D p w) := by
  have hd' := hd
  obtain ⟨⟨n0, n1⟩, -⟩ := hd'
  have t := OKd_t hd hp.1 hp.2
  have v := OKd_v hd hp.1 hp.2
  have k := OKd_k hd hp.1 hp.2
  have s := OKs_b hs hp.1 hp.2
  have b := pi1_b (bk D p)
  have he := ek_s (D := D) hp.1
  have hl := lk_s (D := D) hp.2
  have hn := nn_s (ek D p)
  have hm := nn_s (lk D p)
  have r := rk_b D p
  unfold pq am_rg
  (repeat' split) <;> omega
theorem eqq_b {c : Int} {D : am_M} (hd : OKd c D) {p w : Int} (hp : 0 ≤ p ∧ p < D 1 7) : am_rg (eqq D p w) := by
  have hb := ee_b hd hp
  unfold eqq am_rg
  by_cases z : et D p < 0
  · rw [if_pos z]; omega
  · rw [if_neg z]
    obtain ⟨g1, g2, g3, g4, g5⟩ := gd_x (x := et D p) (y := eb D p) (by omega)
    split <;> omega
theorem bm_b (D : am_M) (a : Int) (n : Nat) : 0 ≤ bm D a n ∧ bm D a n ≤ (n : Int) := by
  unfold bm
  refine sm_b n (fun i i0 i1 => ?_)
  have := pi1_b (bk D (a + i))
  omega
theorem so_b (D : am_M) (s : Int) : 0 ≤ so D s ∧ so D s ≤ ((D 1 7).toNat : Int) := by
  unfold so
  refine sm_b _ (fun i i0 i1 => ?_)
  split <;> omega
theorem ko_b (D : am_M) (s : Int) : 0 ≤ ko D s ∧ ko D s ≤ ((D 1 7).toNat : Int) := by
  unfold ko
  refine sm_b _ (fun i i0 i1 => ?_)
  split <;> omega
theorem fwo_b {c : Int} {D : am_M} (hd : OKd c D) (s : Int) : 0 ≤ fwo D s ∧ fwo D s ≤ 60 := by
  obtain ⟨⟨n0, n1⟩, -⟩ := hd
  have hf := fo_s (D := D) (s := s) n0
  unfold fwo
  split
  · omega
  · have := fw_b (D := D) (o := D 6 0) (i := fo D s) (by omega) (by omega)
    omega
theorem sq_b {c : Int} {D : am_M} (hd : OKd c D) {s w : Int} : am_rg (sq D s w) := by
  have hd' := hd
  obtain ⟨⟨n0, n1⟩, -⟩ := hd'
  have hf := fo_s (D := D) (s := s) n0
  have hn := nn_s (fo D s)
  have h1 := so_b D s
  have h2 := ko_b D s
  have h3 := bm_b D (nn (fo D s)) (so D s).toNat
  have h4 := fwo_b hd s
  unfold sq am_rg
  (repeat' split) <;> omega
theorem nq_b {c : Int} {D : am_M} (hd : OKd c D) {k w : Int} (hk : 0 ≤ k ∧ k < D 1 8) : am_rg (nq D k w) := by
  have h := hd.2.2.2.2.2.2.2.1 k hk.1 hk.2
  have b := pi1_b (tn D (D 7 k) (D 8 k))
  unfold nq am_rg
  (repeat' split) <;> omega
theorem tnm_b (D : am_M) (n : Nat) : 0 ≤ tnm D n ∧ tnm D n ≤ (n : Int) := by
  unfold tnm
  refine sm_b n (fun i i0 i1 => ?_)
  have := pi1_b (tn D (D 7 i) (D 8 i))
  omega
theorem cq_b {c : Int} {D : am_M} (hd : OKd c D) (hs : OKs D) {h w : Int} (hh : am_rg h) : am_rg (cq D h w) := by
  have hd' := hd
  obtain ⟨⟨n0, n1⟩, -, -, -, -, -, k8, -, c9, c10, cc⟩ := hd'
  have h1 := kc_b hd (D 1 7).toNat (by omega)
  have h2 := bm_b D 0 (D 1 7).toNat
  have h3 := cs_b hd hs
  have h4 := tnm_b D (D 1 8).toNat
  have h5 := gE_b hd (D 1 7).toNat (by omega)
  have h6 := lS_b hd (D 1 7).toNat (by omega)
  unfold am_rg at hh
  unfold cq am_rg
  (repeat' split) <;> omega
theorem chn_b {c : Int} {D : am_M} (hd : OKd c D) (w o : Int) : 0 ≤ chn D w o ∧ chn D w o ≤ 60 := by
  obtain ⟨⟨n0, n1⟩, -⟩ := hd
  have h := sm_b (f := fun k => pi1 (CH D w o k)) (D 1 7).toNat (fun i i0 i1 => by
    have := pi1_b (CH D w o i)
    omega)
  unfold chn
  omega
theorem lo_b (D : am_M) (m : Int) : lo D m = -1000000 ∨ (0 ≤ lo D m ∧ lo D m ≤ 500) := by
  have h := fx_s (fun x => if fwS D x ≤ m then 1 else 0) 1 501 501
  unfold lo
  rcases h with ⟨h, -⟩ | ⟨h1, h2, -, -⟩
  · rw [h]; exact Or.inl rfl
  · unfold nn
    rw [if_neg (by omega)]
    exact Or.inr ⟨by omega, by omega⟩
theorem cpq_b {c : Int} {D : am_M} (hd : OKd c D) (w : Int) : am_rg (cpq D w) := by
  have hd' := hd
  obtain ⟨⟨n0, n1⟩, -⟩ := hd'
  have hl := (lm_b hd (D 1 7).toNat (by omega)).1
  unfold cpq
  generalize (lmS D (D 1 7).toNat).1 = b at *
  unfold am_rg
  by_cases z : b = -1000000 ∨ w = 0
  · rw [if_pos z]
    rcases hl with y | y
    · omega
    · have := y.1; omega
  · rw [if_neg z]
    have hb : 0 ≤ b ∧ b < D 1 7 ∧ rk D b = 0 := by
      rcases hl with y | y
      · exact absurd (Or.inl y) z
      · exact ⟨y.1, by omega, y.2.2.1⟩
    have hg := gm_b hd ⟨hb.1, hb.2.1⟩ hb.2.2
    have := cl_b (a := gm D b) (s := gs D b) hg.1.1 hg.2.1
    omega
def hh (F : Int → Int) (h : Int) : Nat → Int
  | 0 => h
  | k + 1 => 31 * hh F h k + F (k : Int)
theorem hh_s {F : Int → Int} {h : Int} {k : Nat} : hh F h (k + 1) = 31 * hh F h k + F (k : Int) := rfl
noncomputable def fP (D : am_M) (k : Int) : Int := if k % 10 ≤ 7 then pq D (k / 10) (k % 10) else eqq D (k / 10) (k % 10 - 8)
noncomputable def fS (D : am_M) (k : Int) : Int := sq D (k / 5) (k % 5)
noncomputable def fN (D : am_M) (k : Int) : Int := nq D (k / 3) (k % 3)
theorem fP_p {D : am_M} {p w : Nat} (hw : w ≤ 7) : fP D ((10 * p + w : Nat) : Int) = pq D (p : Int) (w : Int) := by
  unfold fP
  rw [show ((10 * p + w : Nat) : Int) / 10 = (p : Int) by omega, show ((10 * p + w : Nat) : Int) % 10 = (w : Int) by omega, if_pos (by omega)]
theorem fP_e {D : am_M} {p w : Nat} (hw : w ≤ 1) : fP D ((10 * p + 8 + w : Nat) : Int) = eqq D (p : Int) (w : Int) := by
  unfold fP
  rw [show ((10 * p + 8 + w : Nat) : Int) / 10 = (p : Int) by omega, show ((10 * p + 8 + w : Nat) : Int) % 10 = (w : Int) + 8 by omega, if_neg (by omega), show (w : Int) + 8 - 8 = (w : Int) by omega]
theorem fS_p {D : am_M} {s w : Nat} (hw : w ≤ 4) : fS D ((5 * s + w : Nat) : Int) = sq D (s : Int) (w : Int) := by
  unfold fS
  rw [show ((5 * s + w : Nat) : Int) / 5 = (s : Int) by omega, show ((5 * s + w : Nat) : Int) % 5 = (w : Int) by omega]
theorem fN_p {D : am_M} {s w : Nat} (hw : w ≤ 2) : fN D ((3 * s + w : Nat) : Int) = nq D (s : Int) (w : Int) := by
  unfold fN
  rw [show ((3 * s + w : Nat) : Int) / 3 = (s : Int) by omega, show ((3 * s + w : Nat) : Int) % 3 = (w : Int) by omega]
theorem Ask_f {D A B : am_M} (hf : Fr8 D A) (h : Ask D A B) : Fr8 D B := Fc_f hf h.1
theorem dp_hashPoints {D M : am_M} {Q : Int → am_M → Prop} {X : am_X} {c h : Int} (hd : OKd c D) (hs : OKs D) (hf : Fr8 D M) (hv : NV D M) (hq : ∀ M', Ask D M M' → Q (hh (fP D) h (10 * (D 1 7).toNat)) M') : wp_X5_hashPoints h M Q X := by
  have hd' := hd
  obtain ⟨⟨n0, n1⟩, -⟩ := hd'
  have inner : ∀ (k5 : Int → Int → am_M → Prop) (p : Nat), (p : Int) < D 1 7 → (∀ M2, Ask D M M2 → k5 (hh (fP D) h (10 * (p + 1))) ((p : Int) + 1) M2) → ∀ (r w : Nat) (M1 : am_M), w + r = 8 → Ask D M M1 → wl_X5_hashPoints_20 Q X k5 (r + 1) (hh (fP D) h (10 * p + w)) (p : Int) (w : Int) M1 := by
    intro k5 p hp hk r
    have hp' : 0 ≤ (p : Int) ∧ (p : Int) < D 1 7 := ⟨by omega, hp⟩
    induction r with
    | zero =>
      intro w M1 hw a
      have hw8 : w = 8 := by omega
      subst hw8
      refine ⟨by unfold am_rg; omega, fun _ => ?_, fun e => absurd e (by omega)⟩
      refine dp_error hd hs (Ask_f hf a) a.2 (by unfold am_rg; omega) (by unfold am_rg; omega) (fun z => absurd hp' z) (fun _ z => absurd (by omega) z) (fun _ _ M2 a2 => ⟨eqq_b hd hp', ?_⟩)
      have a2' := Ask_t a a2
      refine dp_error hd hs (Ask_f hf a2') a2'.2 (by unfold am_rg; omega) (by unfold am_rg; omega) (fun z => absurd hp' z) (fun _ z => absurd (by omega) z) (fun _ _ M3 a3 => ⟨eqq_b hd hp', ?_⟩)
      have H := hk M3 (Ask_t a2' a3)
      have e1 := fP_e (D := D) (p := p) (w := 0) (by omega)
      have e2 := fP_e (D := D) (p := p) (w := 1) (by omega)
      rw [show 10 * (p + 1) = 10 * p + 8 + 1 + 1 by omega, hh_s, hh_s] at H
      rw [show 10 * p + 8 + 0 = 10 * p + 8 by omega] at e1
      rw [e1, e2] at H
      exact H
    | succ r ih =>
      intro w M1 hw a
      refine ⟨by unfold am_rg; omega, fun e => absurd e (by omega), fun _ => ?_⟩
      refine dp_point hd hs (Ask_f hf a) a.2 (by unfold am_rg; omega) (by unfold am_rg; omega) (fun z => absurd hp' z) (fun _ z => absurd (by omega) z) (fun _ _ M2 a2 => ⟨pq_b hd hs hp', ?_⟩)
      have H := ih (w + 1) M2 (by omega) (Ask_t a a2)
      rw [show 10 * p + (w + 1) = 10 * p + w + 1 by omega, hh_s, fP_p (by omega)] at H
      exact H
  have outer : ∀ (r p : Nat) (M1 : am_M), (p : Int) + r = D 1 7 → Ask D M M1 → wl_X5_hashPoints_5 Q X (r + 1) (hh (fP D) h (10 * p)) (p : Int) M1 := by
    intro r
    induction r with
    | zero =>
      intro p M1 hp a
      have e1 : M1 1 7 = D 1 7 := congrFun (fr_1 (Ask_f hf a)) 7
      refine ⟨by unfold am_rg; omega, by unfold am_rg; omega, fun _ => ?_, fun e => absurd e (by omega)⟩
      rw [show p = (D 1 7).toNat by omega]
      exact hq M1 a
    | succ r ih =>
      intro p M1 hp a
      have e1 : M1 1 7 = D 1 7 := congrFun (fr_1 (Ask_f hf a)) 7
      refine ⟨by unfold am_rg; omega, by unfold am_rg; omega, fun e => absurd e (by omega), fun _ => ⟨9, ?_⟩⟩
      exact inner _ p (by omega) (fun M2 a2 => ih (p + 1) M2 (by omega) a2) 8 0 M1 (by omega) a
  exact ⟨_, outer (D 1 7).toNat 0 M (by omega) (Ask_r hv)⟩
theorem dp_hashStretches {D M : am_M} {Q : Int → am_M → Prop} {X : am_X} {c h : Int} (hd : OKd c D) (hs : OKs D) (hf : Fr8 D M) (hv : NV D M) (hq : ∀ M', Ask D M M' → Q (hh (fS D) h (5 * (cs D).toNat)) M') : wp_X5_hashStretches h M Q X := by
  have hc := cs_b hd hs
  have hd' := hd
  obtain ⟨⟨n0, n1⟩, -⟩ := hd'
  have inner : ∀ (k14 : Int → Int → Int → am_M → Prop) (p : Nat), (p : Int) < cs D → (∀ M2, Ask D M M2 → k14 (hh (fS D) h (5 * (p + 1))) (cs D) ((p : Int) + 1) M2) → ∀ (r w : Nat) (M1 : am_M), w + r = 5 → Ask D M M1 → wl_X5_hashStretches_24 Q X k14 (r + 1) (hh (fS D) h (5 * p + w)) (cs D) (p : Int) (w : Int) M1 := by
    intro k14 p hp hk r
    have hp' : 0 ≤ (p : Int) ∧ (p : Int) < cs D := ⟨by omega, hp⟩
    induction r with
    | zero =>
      intro w M1 hw a
      have hw5 : w = 5 := by omega
      subst hw5
      exact ⟨by unfold am_rg; omega, fun _ => hk M1 a, fun e => absurd e (by omega)⟩
    | succ r ih =>
      intro w M1 hw a
      refine ⟨by unfold am_rg; omega, fun e => absurd e (by omega), fun _ => ?_⟩
      refine dp_stretch hd hs (Ask_f hf a) a.2 (by unfold am_rg; omega) (by unfold am_rg; omega) (fun z => absurd hp' z) (fun _ z => absurd (by omega) z) (fun _ _ M2 a2 => ⟨sq_b hd, ?_⟩)
      have H := ih (w + 1) M2 (by omega) (Ask_t a a2)
      rw [show 5 * p + (w + 1) = 5 * p + w + 1 by omega, hh_s, fS_p (by omega)] at H
      exact H
  have outer : ∀ (r p : Nat) (M1 : am_M), (p : Int) + r = cs D → Ask D M M1 → wl_X5_hashStretches_14 Q X (r + 1) (hh (fS D) h (5 * p)) (cs D) (p : Int) M1 := by
    intro r
    induction r with
    | zero =>
      intro p M1 hp a
      refine ⟨by unfold am_rg; omega, by unfold am_rg; omega, fun _ => ?_, fun e => absurd e (by omega)⟩
      rw [show p = (cs D).toNat by omega]
      exact hq M1 a
    | succ r ih =>
      intro p M1 hp a
      refine ⟨by unfold am_rg; omega, by unfold am_rg; omega, fun e => absurd e (by omega), fun _ => ⟨6, ?_⟩⟩
      exact inner _ p (by omega) (fun M2 a2 => ih (p + 1) M2 (by omega) a2) 5 0 M1 (by omega) a
  exact dp_stretchCount hd hs hf ⟨_, outer (cs D).toNat 0 M (by omega) (Ask_r hv)⟩
theorem dp_hashNotes {D M : am_M} {Q : Int → am_M → Prop} {X : am_X} {c h : Int} (hd : OKd c D) (hs : OKs D) (hf : Fr8 D M) (hv : NV D M) (hq : ∀ M', Ask D M M' → Q (hh (fN D) h (3 * (D 1 8).toNat)) M') : wp_X5_hashNotes h M Q X := by
  have hk8 := hd.2.2.2.2.2.2.1
  have inner : ∀ (k5 : Int → Int → am_M → Prop) (p : Nat), (p : Int) < D 1 8 → (∀ M2, Ask D M M2 → k5 (hh (fN D) h (3 * (p + 1))) ((p : Int) + 1) M2) → ∀ (r w : Nat) (M1 : am_M), w + r = 3 → Ask D M M1 → wl_X5_hashNotes_20 Q X k5 (r + 1) (hh (fN D) h (3 * p + w)) (p : Int) (w : Int) M1 := by
    intro k5 p hp hk r
    have hp' : 0 ≤ (p : Int) ∧ (p : Int) < D 1 8 := ⟨by omega, hp⟩
    induction r with
    | zero =>
      intro w M1 hw a
      have hw3 : w = 3 := by omega
      subst hw3
      exact ⟨by unfold am_rg; omega, fun _ => hk M1 a, fun e => absurd e (by omega)⟩
    | succ r ih =>
      intro w M1 hw a
      refine ⟨by unfold am_rg; omega, fun e => absurd e (by omega), fun _ => ?_⟩
      refine dp_noteAt hd hs (Ask_f hf a) a.2 (by unfold am_rg; omega) (by unfold am_rg; omega) (fun z => absurd hp' z) (fun _ z => absurd (by omega) z) (fun _ _ M2 a2 => ⟨nq_b hd hp', ?_⟩)
      have H := ih (w + 1) M2 (by omega) (Ask_t a a2)
      rw [show 3 * p + (w + 1) = 3 * p + w + 1 by omega, hh_s, fN_p (by omega)] at H
      exact H
  have outer : ∀ (r p : Nat) (M1 : am_M), (p : Int) + r = D 1 8 → Ask D M M1 → wl_X5_hashNotes_5 Q X (r + 1) (hh (fN D) h (3 * p)) (p : Int) M1 := by
    intro r
    induction r with
    | zero =>
      intro p M1 hp a
      have e1 : M1 1 8 = D 1 8 := congrFun (fr_1 (Ask_f hf a)) 8
      refine ⟨by unfold am_rg; omega, by unfold am_rg; omega, fun _ => ?_, fun e => absurd e (by omega)⟩
      rw [show p = (D 1 8).toNat by omega]
      exact hq M1 a
    | succ r ih =>
      intro p M1 hp a
      have e1 : M1 1 8 = D 1 8 := congrFun (fr_1 (Ask_f hf a)) 8
      refine ⟨by unfold am_rg; omega, by unfold am_rg; omega, fun e => absurd e (by omega), fun _ => ⟨4, ?_⟩⟩
      exact inner _ p (by omega) (fun M2 a2 => ih (p + 1) M2 (by omega) a2) 3 0 M1 (by omega) a
  exact ⟨_, outer (D 1 8).toNat 0 M (by omega) (Ask_r hv)⟩
theorem dp_hashText {M : am_M} {Q : Int → am_M → Prop} {h : Int} (ht : OKt M) (hq : Q (hh (M 65) (31 * h + M 64 1) (M 64 1).toNat) M) : wp_X5_hashText h M Q := by
  obtain ⟨⟨l0, l1⟩, hc⟩ := ht
  have loop : ∀ (r k : Nat), (k : Int) + r = M 64 1 → wl_X5_hashText_18 Q (r + 1) (hh (M 65) (31 * h + M 64 1) k) (k : Int) M := by
    intro r
    induction r with
    | zero =>
      intro k hk
      refine ⟨by unfold am_rg; omega, by unfold am_rg; omega, fun _ => ?_, fun e => absurd e (by omega)⟩
      rw [show k = (M 64 1).toNat by omega]
      exact hq
    | succ r ih =>
      intro k hk
      have hck := hc (k : Int) (by omega) (by omega)
      exact ⟨by unfold am_rg; omega, by unfold am_rg; omega, fun e => absurd e (by omega), fun _ => ⟨by omega, by unfold am_rg; omega, ih (k + 1) (by omega)⟩⟩
  exact ⟨by unfold am_rg; omega, _, loop (M 64 1).toNat 0 (by omega)⟩
noncomputable def g2 (D : am_M) (z : Int) : Int := hh (D 6) (hh (cq D z) 2381 11) 3
noncomputable def g3 (D : am_M) (z : Int) : Int := hh (fP D) (g2 D z) (10 * (D 1 7).toNat)
noncomputable def g4 (D : am_M) (z : Int) : Int := hh (fS D) (g3 D z) (5 * (cs D).toNat)
noncomputable def g5 (D : am_M) (z : Int) : Int := hh (fN D) (g4 D z) (3 * (D 1 8).toNat)
noncomputable def g6 (D : am_M) (z : Int) : Int := hh (fun w => chn D w (D 6 0)) (g5 D z) 3
noncomputable def g7 (D : am_M) (z : Int) : Int := 31 * (31 * (31 * (31 * (31 * (31 * g6 D z + lo D 10) + cpq D 0) + cpq D 1) + arS D 0 (D 1 7).toNat) + arS D 1 (D 1 7).toNat) + (dsh D).toInt64.toInt
noncomputable def dg (D : am_M) (z : Int) (t : Int → Int) (L : Int) : Int := hh t (31 * g7 D z + L) L.toNat
theorem dp_digest {D M : am_M} {Q : Int → am_M → Prop} {X : am_X} {c : Int} (hd : OKd c D) (hs : OKs D) (hf : Fr8 D M) (hv : NV D M) (ht : OKt M) (h14 : am_rg (M 14 2)) (hq : ∀ M', Ask D M M' → Q (dg D (M 14 2) (M 65) (M 64 1)) M') : wp_X5_digest M Q X := by
  have ho := hd.2.2.2.1
  have ho1 := hd.2.2.2.2.1
  have ho2 := hd.2.2.2.2.2.1
  have e14 : ∀ M1, Ask D M M1 → M1 14 2 = M 14 2 := fun M1 a => by rw [a.1 14 (by omega)]
  have txt : ∀ M1, Ask D M M1 → M1 64 = M 64 ∧ M1 65 = M 65 := fun M1 a => ⟨a.1 64 (by omega), a.1 65 (by omega)⟩
  have l81 : ∀ (r w : Nat) (M1 : am_M), w + r = 3 → Ask D M M1 → wl_X5_digest_81 Q X (r + 1) (hh (fun w => chn D w (D 6 0)) (g5 D (M 14 2)) w) (w : Int) M1 := by
    intro r
    induction r with
    | zero =>
      intro w M1 hw a
      have hw3 : w = 3 := by omega
      subst hw3
      refine ⟨by unfold am_rg; omega, fun _ => ?_, fun e => absurd e (by omega)⟩
      have hl := lo_b D 10
      refine dp_leastOath hd hs (Ask_f hf a) a.2 (by unfold am_rg; omega) (fun z => absurd (by omega) z) (fun _ M2 a2 => ⟨by unfold am_rg; omega, ?_⟩)
      have a2' := Ask_t a a2
      refine dp_cheapest hd hs (Ask_f hf a2') a2'.2 (by unfold am_rg; omega) (fun z => absurd (by omega) z) (fun _ M3 a3 => ⟨cpq_b hd 0, ?_⟩)
      have a3' := Ask_t a2' a3
      refine dp_cheapest hd hs (Ask_f hf a3') a3'.2 (by unfold am_rg; omega) (fun z => absurd (by omega) z) (fun _ M4 a4 => ⟨cpq_b hd 1, ?_⟩)
      have a4' := Ask_t a3' a4
      refine dp_area hd hs (Ask_f hf a4') (Or.inl rfl) (dp_area hd hs (Ask_f hf a4') (Or.inr rfl) (dp_droppedShare hd (Ask_f hf a4') (dp_bitsOf hd ?_)))
      obtain ⟨t1, t2⟩ := txt M4 a4'
      have ht4 : OKt M4 := by unfold OKt at ht ⊢; rw [t1, t2]; exact ht
      refine dp_hashText ht4 ?_
      have H := hq M4 a4'
      rw [t1, t2]
      exact H
    | succ r ih =>
      intro w M1 hw a
      refine ⟨by unfold am_rg; omega, fun e => absurd e (by omega), fun _ => ?_⟩
      have hb := chn_b hd (w : Int) (D 6 0)
      refine dp_ifThinned hd hs (Ask_f hf a) a.2 (by unfold am_rg; omega) (fun z => absurd (by omega) z) (fun _ M2 a2 => ⟨by unfold am_rg; omega, ?_⟩)
      exact ih (w + 1) M2 (by omega) (Ask_t a a2)
  have l33 : ∀ (r w : Nat) (M1 : am_M), w + r = 3 → Ask D M M1 → wl_X5_digest_33 Q X (r + 1) (hh (D 6) (hh (cq D (M 14 2)) 2381 11) w) (w : Int) M1 := by
    intro r
    induction r with
    | zero =>
      intro w M1 hw a
      have hw3 : w = 3 := by omega
      subst hw3
      refine ⟨by unfold am_rg; omega, fun _ => ?_, fun e => absurd e (by omega)⟩
      refine dp_hashPoints hd hs (Ask_f hf a) a.2 (fun M2 a2 => ?_)
      have a2' := Ask_t a a2
      refine dp_hashStretches hd hs (Ask_f hf a2') a2'.2 (fun M3 a3 => ?_)
      have a3' := Ask_t a2' a3
      refine dp_hashNotes hd hs (Ask_f hf a3') a3'.2 (fun M4 a4 => ?_)
      exact ⟨_, l81 3 0 M4 (by omega) (Ask_t a3' a4)⟩
    | succ r ih =>
      intro w M1 hw a
      have e6 : M1 6 (w : Int) = D 6 (w : Int) := congrFun (fr_6 (Ask_f hf a)) _
      have b6 : am_rg (D 6 (w : Int)) := by
        have : w = 0 ∨ w = 1 ∨ w = 2 := by omega
        unfold am_rg
        rcases this with z | z | z <;> subst z
        · show -2147483648 ≤ D 6 0 ∧ D 6 0 ≤ 2147483647
          omega
        · show -2147483648 ≤ D 6 1 ∧ D 6 1 ≤ 2147483647
          omega
        · show -2147483648 ≤ D 6 2 ∧ D 6 2 ≤ 2147483647
          omega
      refine ⟨by unfold am_rg; omega, fun e => absurd e (by omega), fun _ => ⟨by omega, ?_⟩⟩
      rw [e6]
      exact ⟨b6, ih (w + 1) M1 (by omega) a⟩
  have l6 : ∀ (r w : Nat) (M1 : am_M), w + r = 11 → Ask D M M1 → wl_X5_digest_6 Q X (r + 1) (hh (cq D (M 14 2)) 2381 w) (w : Int) M1 := by
    intro r
    induction r with
    | zero =>
      intro w M1 hw a
      have hw3 : w = 11 := by omega
      subst hw3
      exact ⟨by unfold am_rg; omega, fun _ => ⟨_, l33 3 0 M1 (by omega) a⟩, fun e => absurd e (by omega)⟩
    | succ r ih =>
      intro w M1 hw a
      refine ⟨by unfold am_rg; omega, fun e => absurd e (by omega), fun _ => ?_⟩
      refine dp_count hd hs (Ask_f hf a) a.2 (by unfold am_rg; omega) (fun z => absurd (by omega) z) (fun _ M2 a2 => ?_)
      rw [e14 M1 a]
      exact ⟨cq_b hd hs h14, ih (w + 1) M2 (by omega) (Ask_t a a2)⟩
  exact ⟨_, l6 11 0 M (by omega) (Ask_r hv)⟩
