def vfb (r : UInt64) : Bool := decide (r &&& 0x7fffffffffffffff ≤ 0x7ff0000000000000)
theorem vfb_t {r : UInt64} (h : vfb r = true) : vf_n64 r := by
  unfold vf_n64
  exact of_decide_eq_true h
def rgb (x : Int) : Bool := decide (-2147483648 ≤ x) && decide (x ≤ 2147483647)
def shq (a b : Int) : UInt64 := FP.ddiv (FP.i2d (Int32.ofInt a)) (FP.i2d (Int32.ofInt b))
theorem rk_b (D : am_M) (p : Int) : 0 ≤ rk D p ∧ rk D p ≤ 3 := by
  unfold rk
  (repeat' split) <;> omega
theorem pq_b {c : Int} {D : am_M} (hd : OKd c D) (hs : OKs D) {p w : Int} (hp : 0 ≤ p ∧ p < D 1 7) : am_rg (pq D p w) := by
  have hd' := hd
  obtain ⟨⟨n0, n1⟩, -⟩ := hd'
  have t := OKd_t hd hp.1 hp.2
  have v := OKd_v hd hp.1 hp.2
  have k := OKd_k hd hp.1 hp.2
  have s := OKs_b hs hp.1 hp.2
  have b := pi1_b (bk D p)
  have he := ek_s (D := D) hp.1
  have hl := lk_s (D := D) hp.2
  have hn := nn_s (ek D p)
  have hm := nn_s (lk D p)
  have r := rk_b D p
  unfold pq am_rg
  (repeat' split) <;> omega
theorem eqq_b {c : Int} {D : am_M} (hd : OKd c D) {p w : Int} (hp : 0 ≤ p ∧ p < D 1 7) : am_rg (eqq D p w) := by
  have hb := ee_b hd hp
  unfold eqq am_rg
  by_cases z : et D p < 0
  · rw [if_pos z]; omega
  · rw [if_neg z]
    obtain ⟨g1, g2, g3, g4, g5⟩ := gd_x (x := et D p) (y := eb D p) (by omega)
    split <;> omega
theorem bm_b (D : am_M) (a : Int) (n : Nat) : 0 ≤ bm D a n ∧ bm D a n ≤ (n : Int) := by
  unfold bm
  refine sm_b n (fun i i0 i1 => ?_)
  have := pi1_b (bk D (a + i))
  omega
theorem so_b (D : am_M) (s : Int) : 0 ≤ so D s ∧ so D s ≤ ((D 1 7).toNat : Int) := by
  unfold so
  refine sm_b _ (fun i i0 i1 => ?_)
  split <;> omega
theorem ko_b (D : am_M) (s : Int) : 0 ≤ ko D s ∧ ko D s ≤ ((D 1 7).toNat : Int) := by
  unfold ko
  refine sm_b _ (fun i i0 i1 => ?_)
  split <;> omega
theorem fwo_b {c : Int} {D : am_M} (hd : OKd c D) (s : Int) : 0 ≤ fwo D s ∧ fwo D s ≤ 60 := by
  obtain ⟨⟨n0, n1⟩, -⟩ := hd
  have hf := fo_s (D := D) (s := s) n0
  unfold fwo
  split
  · omega
  · have := fw_b (D := D) (o := D 6 0) (i := fo D s) (by omega) (by omega)
    omega
theorem sq_b {c : Int} {D : am_M} (hd : OKd c D) {s w : Int} : am_rg (sq D s w) := by
  have hd' := hd
  obtain ⟨⟨n0, n1⟩, -⟩ := hd'
  have hf := fo_s (D := D) (s := s) n0
  have hn := nn_s (fo D s)
  have h1 := so_b D s
  have h2 := ko_b D s
  have h3 := bm_b D (nn (fo D s)) (so D s).toNat
  have h4 := fwo_b hd s
  unfold sq am_rg
  (repeat' split) <;> omega
theorem tnm_b (D : am_M) (n : Nat) : 0 ≤ tnm D n ∧ tnm D n ≤ (n : Int) := by
  unfold tnm
  refine sm_b n (fun i i0 i1 => ?_)
  have := pi1_b (tn D (D 7 i) (D 8 i))
  omega
theorem cq_b {c : Int} {D : am_M} (hd : OKd c D) (hs : OKs D) {h w : Int} (hh : am_rg h) : am_rg (cq D h w) := by
  have hd' := hd
  obtain ⟨⟨n0, n1⟩, -, -, -, -, -, k8, -, c9, c10, cc⟩ := hd'
  have h1 := kc_b hd (D 1 7).toNat (by omega)
  have h2 := bm_b D 0 (D 1 7).toNat
  have h3 := cs_b hd hs
  have h4 := tnm_b D (D 1 8).toNat
  have h5 := gE_b hd (D 1 7).toNat (by omega)
  have h6 := lS_b hd (D 1 7).toNat (by omega)
  unfold am_rg at hh
  unfold cq am_rg
  (repeat' split) <;> omega
theorem chn_b {c : Int} {D : am_M} (hd : OKd c D) (w o : Int) : 0 ≤ chn D w o ∧ chn D w o ≤ 60 := by
  obtain ⟨⟨n0, n1⟩, -⟩ := hd
  have h := sm_b (f := fun k => pi1 (CH D w o k)) (D 1 7).toNat (fun i i0 i1 => by
    have := pi1_b (CH D w o i)
    omega)
  unfold chn
  omega
theorem lo_b (D : am_M) (m : Int) : lo D m = -1000000 ∨ (0 ≤ lo D m ∧ lo D m ≤ 500) := by
  have h := fx_s (fun x => if fwS D x ≤ m then 1 else 0) 1 501 501
  unfold lo
  rcases h with ⟨h, -⟩ | ⟨h1, h2, -, -⟩
  · rw [h]; exact Or.inl rfl
  · unfold nn
    rw [if_neg (by omega)]
    exact Or.inr ⟨by omega, by omega⟩
theorem cpq_b {c : Int} {D : am_M} (hd : OKd c D) (w : Int) : am_rg (cpq D w) := by
  have hd' := hd
  obtain ⟨⟨n0, n1⟩, -⟩ := hd'
  have hl := (lm_b hd (D 1 7).toNat (by omega)).1
  unfold cpq
  generalize (lmS D (D 1 7).toNat).1 = b at *
  unfold am_rg
  by_cases z : b = -1000000 ∨ w = 0
  · rw [if_pos z]
    rcases hl with y | y
    · omega
    · have := y.1; omega
  · rw [if_neg z]
    have hb : 0 ≤ b ∧ b < D 1 7 ∧ rk D b = 0 := by
      rcases hl with y | y
      · exact absurd (Or.inl y) z
      · exact ⟨y.1, by omega, y.2.2.1⟩
    have hg := gm_b hd ⟨hb.1, hb.2.1⟩ hb.2.2
    have := cl_b (a := gm D b) (s := gs D b) hg.1.1 hg.2.1
    omega
theorem Ask_f {D A B : am_M} (hf : Fr8 D A) (h : Ask D A B) : Fr8 D B := Fc_f hf h.1
/-- the share is a number, at most 1 -/
def shc (v : UInt64) : Int := (Op.cmpValue (FP.dcmp v FP.dconst1) .g).toInt
def okv (v : UInt64) : Bool := vfb v && (decide (shc v ≤ 0) && rgb (shc v))
theorem shq_ok : ∀ b : Nat, b < 61 → ∀ a : Nat, a < b + 1 → (b = 0 ∨ okv (shq (a : Int) (b : Int)) = true) := by decide +kernel
theorem okv_0 : okv FP.dconst0 = true := by decide +kernel
def dsh (D : am_M) : UInt64 := if D 1 7 = 0 then FP.dconst0 else shq (D 1 7 - kc D (D 1 7).toNat) (D 1 7)
theorem dsh_ok {c : Int} {D : am_M} (hd : OKd c D) : okv (dsh D) = true := by
  have hd' := hd
  obtain ⟨⟨n0, n1⟩, -⟩ := hd'
  have hk := kc_b hd (D 1 7).toNat (by omega)
  unfold dsh
  by_cases z : D 1 7 = 0
  · rw [if_pos z]; exact okv_0
  · rw [if_neg z]
    have h := shq_ok (D 1 7).toNat (by omega) (D 1 7 - kc D (D 1 7).toNat).toNat (by omega)
    rw [show (((D 1 7 - kc D (D 1 7).toNat).toNat : Nat) : Int) = D 1 7 - kc D (D 1 7).toNat by omega, show (((D 1 7).toNat : Nat) : Int) = D 1 7 by omega] at h
    rcases h with h | h
    · omega
    · exact h
theorem okv_1 {v : UInt64} (h : okv v = true) : vf_n64 v ∧ shc v ≤ 0 ∧ am_rg (shc v) := by
  unfold okv at h
  rw [Bool.and_eq_true, Bool.and_eq_true] at h
  refine ⟨vfb_t h.1, of_decide_eq_true h.2.1, ?_⟩
  have h2 := h.2.2
  unfold rgb at h2
  rw [Bool.and_eq_true] at h2
  exact ⟨of_decide_eq_true h2.1, of_decide_eq_true h2.2⟩
theorem dp_droppedShare {D M : am_M} {Q : UInt64 → am_M → Prop} {c : Int} (hd : OKd c D) (hf : Fr8 D M) (hq : Q (dsh D) M) : wp_X5_droppedShare M Q := by
  have hd' := hd
  obtain ⟨⟨n0, n1⟩, -⟩ := hd'
  have hv := (okv_1 (dsh_ok hd)).1
  unfold dsh at hq hv
  unfold wp_X5_droppedShare
  rw [fr_1 hf]
  refine ⟨by unfold am_rg; omega, fun e => dp_keptPoints hd hf ?_, fun e => ?_⟩
  · rw [if_neg e] at hq hv
    unfold shq at hq hv
    rw [fr_1 hf]
    exact ⟨hv, hq⟩
  · rw [if_pos (by omega)] at hq
    exact hq
