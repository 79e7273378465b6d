theorem mp_below {a b : Int} {D M : am_M} {Q : Int → am_M → Prop} {c : Int} (hd : OKd c D) (hm : Mqr (M 70) D) (ha : 0 ≤ a ∧ a < D 1 7) (hb : 0 ≤ b ∧ b < D 1 7) (hq : Q (sp_span D a b) M) : wp_X6_below a b M Q := by
  have h6 := hd.2.2.2.2.2.1
  unfold sp_span at hq
  unfold wp_X6_below
  rw [hm.2.2.2.2.2.2.1]
  refine ⟨by unfold am_rg; omega, fun e => mp_time hd hm hb (mp_time hd hm ha ?_), fun e => ?_⟩
  · rw [if_neg e] at hq; exact hq
  · rw [if_pos (by omega)] at hq; exact hq
def av (D : am_M) (a b t : Int) : Int := D 3 a * sp_span D a b + sp_rise D a b * (t - D 2 a)
theorem mp_above {a b t : Int} {D M : am_M} {Q : Int → am_M → Prop} {c : Int} (hd : OKd c D) (hm : Mqr (M 70) D) (ha : 0 ≤ a ∧ a < D 1 7) (hb : 0 ≤ b ∧ b < D 1 7) (hq : Q (av D a b t) M) : wp_X6_above a b t M Q := by
  have h6 := hd.2.2.2.2.2.1
  unfold av sp_span sp_rise at hq
  unfold wp_X6_above
  rw [hm.2.2.2.2.2.2.1]
  refine ⟨by unfold am_rg; omega, fun e => mp_value hd hm ha (mp_time hd hm hb (mp_time hd hm ha (mp_value hd hm hb (mp_value hd hm ha (mp_time hd hm ha ?_))))), fun e => mp_value hd hm ha ?_⟩
  · rw [if_neg e, if_neg e] at hq; exact hq
  · rw [if_pos (by omega), if_pos (by omega), Int.mul_one, Int.zero_mul, Int.add_zero] at hq; exact hq
theorem mp_size {x : Int} {M : am_M} {Q : Int → am_M → Prop} (hx : am_rg x) (hq : Q (ab x) M) : wp_X6_size x M Q := by
  unfold ab at hq
  refine ⟨hx, fun e => ?_, fun e => ?_⟩
  · rw [if_pos e] at hq; exact hq
  · rw [if_neg e, show 0 - x = -x by omega] at hq; exact hq
theorem mi_av {D : am_M} {a b k : Int} : ab (D 3 k * sp_span D a b - av D a b (D 2 k)) = sp_mi D a b k := by
  have e : D 3 k * sp_span D a b - av D a b (D 2 k) = sp_ms D a b k := by
    unfold av sp_ms
    rw [Int.sub_mul]
    omega
  rw [e]
  unfold ab sp_mi
  split <;> omega
theorem mp_off {a b k : Int} {D M : am_M} {Q : Int → am_M → Prop} {c : Int} (hd : OKd c D) (hm : Mqr (M 70) D) (h0 : 0 ≤ a) (h1 : a < b) (h2 : b < D 1 7) (hk : 0 ≤ k ∧ k < D 1 7) (hq : Q (sp_mi D a b k) M) : wp_X6_off a b (D 2 k) (D 3 k) M Q := by
  have ha : 0 ≤ a ∧ a < D 1 7 := ⟨h0, by omega⟩
  have hb : 0 ≤ b ∧ b < D 1 7 := ⟨by omega, h2⟩
  refine mp_below hd hm ha hb (mp_above hd hm ha hb (mp_size ?_ ?_))
  · have h := ms_b hd h0 h1 h2 hk.1 hk.2
    have e : D 3 k * sp_span D a b - av D a b (D 2 k) = sp_ms D a b k := by
      unfold av sp_ms
      rw [Int.sub_mul]
      omega
    rw [e]
    unfold am_rg
    omega
  · rw [mi_av]; exact hq
def wno (D : am_M) (a b o : Int) : Nat → Int := sm (fun m => if sp_mi D a b (a + 1 + m) ≤ o * sp_span D a b then 1 else 0)
theorem wno_b (D : am_M) (a b o : Int) (n : Nat) : 0 ≤ wno D a b o n ∧ wno D a b o n ≤ (n : Int) := by
  unfold wno
  refine sm_b n (fun i i0 i1 => ?_)
  split <;> omega
theorem oo_b {c : Int} {D : am_M} (hd : OKd c D) {a b o : Int} (ho : 0 ≤ o ∧ o ≤ 600) (h0 : 0 ≤ a) (h1 : a < b) (h2 : b < D 1 7) : 0 ≤ o * sp_span D a b ∧ o * sp_span D a b ≤ 5999400 := by
  have hs := span_b hd h0 h1 h2
  have p := sp_pb (x := o) (y := sp_span D a b) (a := 600) (b := 9999) (by omega) (by omega)
  have := Int.mul_nonneg ho.1 (by omega : 0 ≤ sp_span D a b)
  omega
theorem mp_withinMany {a b o : Int} {D M : am_M} {Q : Int → am_M → Prop} {c : Int} (hd : OKd c D) (hm : Mqr (M 70) D) (ho : 0 ≤ o ∧ o ≤ 600) (h0 : 0 ≤ a) (h1 : a < b) (h2 : b < D 1 7) (hq : Q (wno D a b o (b - a - 1).toNat) M) : wp_X6_withinMany a b o M Q := by
  have n1 := hd.1
  have hO := oo_b hd ho h0 h1 h2
  have loop : ∀ (r k : Nat), a + 1 + (k : Int) + r = b → wl_X6_withinMany_8 Q (r + 1) a b o (wno D a b o k) (a + 1 + (k : Int)) M := by
    intro r
    induction r with
    | zero =>
      intro k hk
      refine ⟨by unfold am_rg; omega, by unfold am_rg; omega, fun _ => ?_, fun e => absurd e (by omega)⟩
      rw [show k = (b - a - 1).toNat by omega]
      exact hq
    | succ r ih =>
      intro k hk
      have es : wno D a b o (k + 1) = wno D a b o k + (if sp_mi D a b (a + 1 + (k : Int)) ≤ o * sp_span D a b then 1 else 0) := rfl
      have h := ih (k + 1) (by omega)
      rw [es, show a + 1 + ((k + 1 : Nat) : Int) = a + 1 + (k : Int) + 1 by omega] at h
      have hp : 0 ≤ a + 1 + (k : Int) ∧ a + 1 + (k : Int) < D 1 7 := ⟨by omega, by omega⟩
      have hi := mi_b hd h0 h1 h2 hp.1 hp.2
      refine ⟨by unfold am_rg; omega, by unfold am_rg; omega, fun e => absurd e (by omega), fun _ => ?_⟩
      refine mp_time hd hm hp (mp_value hd hm hp (mp_off hd hm h0 h1 h2 hp (mp_below hd hm ⟨h0, by omega⟩ ⟨by omega, h2⟩ ⟨by unfold am_rg; omega, by unfold am_rg; omega, fun e => ?_, fun e => ?_⟩)))
      · rw [if_neg (by omega)] at h; exact h
      · rw [if_pos (by omega)] at h; exact h
  have h := loop (b - a - 1).toNat 0 (by omega)
  rw [show a + 1 + ((0 : Nat) : Int) = a + 1 by omega] at h
  exact ⟨_, h⟩
theorem sm_full {f : Int → Int} : ∀ n : Nat, (∀ i, 0 ≤ i → i < (n : Int) → 0 ≤ f i ∧ f i ≤ 1) → (sm f n = (n : Int) ↔ ∀ i, 0 ≤ i → i < (n : Int) → f i = 1)
  | 0, _ => ⟨fun _ i i0 i1 => by omega, fun _ => rfl⟩
  | n + 1, h => by
    have ih := sm_full n (fun i i0 i1 => h i i0 (by omega))
    have b := sm_b n (fun i i0 i1 => h i i0 (by omega))
    have hn := h n (by omega) (by omega)
    rw [sm_s]
    constructor
    · intro z i i0 i1
      by_cases e : i = (n : Int)
      · rw [e]; omega
      · exact ih.mp (by omega) i i0 (by omega)
    · intro z
      rw [ih.mpr (fun i i0 i1 => z i i0 (by omega)), z n (by omega) (by omega)]
      omega
theorem wno_j {c : Int} {D : am_M} (hd : OKd c D) {a b o : Int} (ho : 0 ≤ o) (h0 : 0 ≤ a) (h1 : a < b) (h2 : b < D 1 7) : wno D a b o (b - a - 1).toNat = b - a - 1 ↔ jn D a b o := by
  have hs := span_b hd h0 h1 h2
  have hp := Int.mul_nonneg ho (show 0 ≤ sp_span D a b by omega)
  have s := sm_full (f := fun m => if sp_mi D a b (a + 1 + m) ≤ o * sp_span D a b then 1 else 0) (b - a - 1).toNat (fun i i0 i1 => by split <;> omega)
  rw [show (((b - a - 1).toNat : Nat) : Int) = b - a - 1 by omega] at s
  unfold wno jn
  rw [s, mx_le (by omega)]
  constructor
  · intro h k k0 k1
    have := h (k - (a + 1)) (by omega) (by omega)
    rw [show a + 1 + (k - (a + 1)) = k by omega] at this
    by_cases z : sp_mi D a b k ≤ o * sp_span D a b
    · exact z
    · rw [if_neg z] at this; omega
  · intro h i i0 i1
    exact if_pos (h (a + 1 + i) (by omega) (by omega))
theorem mp_canJoin {a b o : Int} {D M : am_M} {Q : Int → am_M → Prop} {c : Int} (hd : OKd c D) (hm : Mqr (M 70) D) (ho : 0 ≤ o ∧ o ≤ 600) (h0 : 0 ≤ a) (h1 : a < b) (h2 : b < D 1 7) (q1 : jn D a b o → Q 1 M) (q0 : ¬ jn D a b o → Q 0 M) : wp_X6_canJoin a b o M Q := by
  have n1 := hd.1
  have hw := wno_b D a b o (b - a - 1).toNat
  have hj := wno_j hd ho.1 h0 h1 h2
  exact mp_withinMany hd hm ho h0 h1 h2 ⟨by unfold am_rg; omega, by unfold am_rg; omega, fun e => q0 (fun z => e (hj.mpr z)), fun e => q1 (hj.mp (Classical.byContradiction e))⟩
theorem mp_against {p : Int} {D M : am_M} {Q : Int → am_M → Prop} {c : Int} (hd : OKd c D) (hs : OKs D) (hm : Mqr (M 70) D) (hp : 0 ≤ p ∧ p < D 1 7) (hq : ∀ M', Fq M M' → (rk D p = 0 → M' 69 9 = ek D p ∧ M' 69 10 = lk D p) → Q (rk D p) M') : wp_X6_against p M Q := by
  have n1 := hd.1
  have ho := hd.2.2.2.1
  have he := ek_s (D := D) hp.1
  have hl := lk_s (D := D) hp.2
  have er : rk D p = if D 4 p ≠ 1 then 1 else if ek D p = -1 ∨ lk D p = -1 then 2 else if sp_mx D (ek D p) (lk D p) (lk D p - ek D p - 1).toNat ≤ D 6 0 * sp_span D (ek D p) (lk D p) then 0 else 3 := rfl
  refine mp_isKept hd hm hp (fun y => ⟨by unfold am_rg; omega, fun _ => ?_, fun e => absurd (by omega) e⟩) (fun y => ⟨by unfold am_rg; omega, fun e => absurd rfl e, fun _ => ?_⟩)
  · refine mp_neighbors hd hs hm hp (fun M1 f1 a1 b1 => ?_)
    have hm1 := Fq_m hm f1
    have H := hq M1 f1 (fun _ => ⟨a1, b1⟩)
    rw [er, if_neg (by omega)] at H
    rw [a1, b1]
    refine ⟨by unfold am_rg; omega, fun e => ?_, fun e => ⟨by unfold am_rg; omega, fun e2 => ?_, fun e2 => ?_⟩⟩
    · rw [if_pos (by omega)] at H; exact H
    · rw [if_neg (by omega)] at H
      rw [hm1.2.2.2.2.1]
      refine mp_canJoin hd hm1 (by omega) (by omega) (by omega) (by omega) (fun j => ⟨by unfold am_rg; omega, fun z => absurd z (by omega), fun _ => ?_⟩) (fun j => ⟨by unfold am_rg; omega, fun _ => ?_, fun z => absurd rfl z⟩)
      · unfold jn at j; rw [if_pos j] at H; exact H
      · unfold jn at j; rw [if_neg j] at H; exact H
    · rw [if_pos (by omega)] at H; exact H
  · have H := hq M Fq_r (fun z => by rw [er, if_pos y] at z; omega)
    rw [er, if_pos y] at H
    exact H
theorem mp_keptAt {t : Int} {D M : am_M} {Q : Int → am_M → Prop} {c : Int} (hd : OKd c D) (hm : Mqr (M 70) D) (ht : am_rg t) (q1 : (pl D t < D 1 7 ∧ D 4 (pl D t) = 1) ∧ D 2 (pl D t) = t → Q (pl D t) M) (q0 : ¬ ((pl D t < D 1 7 ∧ D 4 (pl D t) = 1) ∧ D 2 (pl D t) = t) → Q (-1) M) : wp_X6_keptAt t M Q := by
  have n1 := hd.1
  have hpl := pl_s (D := D) (t := t) n1.1
  have loop : ∀ (r : Nat) (k : Int), 0 ≤ k → k + r = D 1 7 → (∀ i, 0 ≤ i → i < k → ¬ (D 4 i = 1 ∧ D 2 i = t)) → wl_X6_keptAt_2 Q (r + 1) t k M := by
    intro r
    induction r with
    | zero =>
      intro k k0 hk inv
      rw [wl_X6_keptAt_2, hm.1]
      exact ⟨by unfold am_rg; omega, by unfold am_rg; omega, fun _ => q0 (fun z => inv _ hpl.1 (by omega) ⟨z.1.2, z.2⟩), fun e => absurd e (by omega)⟩
    | succ r ih =>
      intro k k0 hk inv
      have hp : 0 ≤ k ∧ k < D 1 7 := ⟨k0, by omega⟩
      have tk := OKd_t hd hp.1 hp.2
      have nxt : ¬ (D 4 k = 1 ∧ D 2 k = t) → wl_X6_keptAt_2 Q (r + 1) t (k + 1) M := fun z => ih (k + 1) (by omega) (by omega) (fun i i0 i1 => by
        by_cases y : i = k
        · rw [y]; exact z
        · exact inv i i0 (by omega))
      rw [wl_X6_keptAt_2, hm.1]
      refine ⟨by unfold am_rg; omega, by unfold am_rg; omega, fun e => absurd e (by omega), fun _ => ?_⟩
      refine mp_time hd hm hp ⟨by unfold am_rg; omega, ht, fun e => nxt (fun z => e z.2), fun e => ?_⟩
      have et : D 2 k = t := by omega
      have ep : k = pl D t := by rw [← et]; exact (pl_p hd hp).symm
      refine mp_isKept hd hm hp (fun y => ⟨by unfold am_rg; omega, fun e => absurd e (by omega), fun _ => ?_⟩) (fun y => ⟨by unfold am_rg; omega, fun _ => nxt (fun z => y z.1), fun e => absurd rfl e⟩)
      rw [ep]
      rw [ep] at y et hp
      exact q1 ⟨⟨hp.2, y⟩, et⟩
  exact ⟨_, loop (D 1 7).toNat 0 (by omega) (by omega) (fun i i0 i1 => by omega)⟩
/-- where no kept point has the time, the kept ones from it on are those behind it -/
theorem rc_rb {c : Int} {D : am_M} (hd : OKd c D) {t : Int} (h : ¬ ((pl D t < D 1 7 ∧ D 4 (pl D t) = 1) ∧ D 2 (pl D t) = t)) : rc D t = rb D t := by
  have n0 := hd.1.1
  have hp := pl_s (D := D) (t := t) n0
  unfold rb rc pb
  by_cases z : pl D t < D 1 7 ∧ D 2 (pl D t) = t
  · rw [if_pos z]
    obtain ⟨m, hm⟩ : ∃ m, (D 1 7 - pl D t).toNat = m + 1 := ⟨(D 1 7 - pl D t).toNat - 1, by omega⟩
    rw [hm, show (D 1 7 - (pl D t + 1)).toNat = m by omega]
    show (if D 4 (D 1 7 - ((m : Int) + 1)) = 1 then D 1 7 - ((m : Int) + 1) else kf D (D 1 7) m) = kf D (D 1 7) m
    rw [if_neg]
    rw [show D 1 7 - ((m : Int) + 1) = pl D t by omega]
    exact fun y => h ⟨⟨z.1, y⟩, z.2⟩
  · rw [if_neg z]
theorem mp_read {t : Int} {D M : am_M} {Q : am_M → Prop} {c : Int} (hd : OKd c D) (hs : OKs D) (hm : Mqr (M 70) D) (ht : 0 ≤ t ∧ t ≤ 9999) (hq : ∀ M', Fq M M' → M' 69 12 = rdb D t → (rdb D t ≠ 0 → M' 69 11 = rdt D t) → Q M') : wp_X6_read t M Q := by
  have n1 := hd.1
  have hpl := pl_s (D := D) (t := t) n1.1
  have ha := ra_s (D := D) (t := t) n1.1
  have hc := rc_s (D := D) (t := t) n1.1
  refine mp_keptAt hd hm (by unfold am_rg; omega) (fun z => ?_) (fun z => ?_)
  · refine mp_around hd hm (by unfold am_rg; omega) (fun M1 f1 a1 b1 => ⟨by unfold am_rg; omega, fun e => absurd e (by omega), fun _ => ?_⟩)
    have f2 : Fq M (am_up M1 69 12 0) := Fq_u f1 (by omega)
    refine mp_value hd (Fq_m hm f2) ⟨hpl.1, z.1.1⟩ (hq _ (Fq_u (Fq_u f2 (by omega)) (by omega)) ?_ (fun _ => ?_))
    · rw [am_up_s]; unfold rdb; rw [if_pos z]
    · rw [am_up_n (by omega), am_up_s]; unfold rdt; rw [if_pos z]
  · refine mp_around hd hm (by unfold am_rg; omega) (fun M1 f1 a1 b1 => ⟨by unfold am_rg; omega, fun _ => ?_, fun e => absurd (by omega) e⟩)
    have f2 : Fq M (am_up M1 69 12 0) := Fq_u f1 (by omega)
    have hm2 := Fq_m hm f2
    have a2 : am_up M1 69 12 0 69 9 = ra D t := by rw [am_up_n (by omega)]; exact a1
    have b2 : am_up M1 69 12 0 69 10 = rc D t := by rw [am_up_n (by omega), b1]; exact (rc_rb hd z).symm
    have eb : rdb D t = if ra D t ≠ -1 ∧ rc D t ≠ -1 ∧ D 5 (ra D t) = D 5 (rc D t) then sp_span D (ra D t) (rc D t) else 0 := by unfold rdb; rw [if_neg z]
    have et : rdt D t = if ra D t ≠ -1 ∧ rc D t ≠ -1 ∧ D 5 (ra D t) = D 5 (rc D t) then D 3 (ra D t) * sp_span D (ra D t) (rc D t) + sp_rise D (ra D t) (rc D t) * (t - D 2 (ra D t)) else 0 := by unfold rdt; rw [if_neg z]
    have none : ¬ (ra D t ≠ -1 ∧ rc D t ≠ -1 ∧ D 5 (ra D t) = D 5 (rc D t)) → Q (am_up M1 69 12 0) := fun y => hq _ f2 (by rw [am_up_s, eb, if_neg y]) (fun y2 => absurd (by rw [eb, if_neg y]) y2)
    rw [a2, b2]
    refine ⟨by unfold am_rg; omega, fun e => none (by omega), fun e => ⟨by unfold am_rg; omega, fun e2 => none (by omega), fun e2 => ?_⟩⟩
    have pa : 0 ≤ ra D t ∧ ra D t < D 1 7 := ⟨by omega, by omega⟩
    have pc : 0 ≤ rc D t ∧ rc D t < D 1 7 := ⟨by omega, by omega⟩
    have s1 := OKs_b hs pa.1 pa.2
    have s2 := OKs_b hs pc.1 pc.2
    refine mp_stretchOf hd hs hm2 pa ?_
    rw [b2]
    refine mp_stretchOf hd hs hm2 pc ⟨by unfold am_rg; omega, by unfold am_rg; omega, fun y => none (fun w => y w.2.2), fun y => ?_⟩
    have yes : ra D t ≠ -1 ∧ rc D t ≠ -1 ∧ D 5 (ra D t) = D 5 (rc D t) := ⟨by omega, by omega, by omega⟩
    rw [a2, b2]
    refine mp_above hd hm2 pa pc ?_
    have f3 : Fq M (am_up (am_up M1 69 12 0) 69 11 (av D (ra D t) (rc D t) t)) := Fq_u f2 (by omega)
    have x9 : am_up (am_up M1 69 12 0) 69 11 (av D (ra D t) (rc D t) t) 69 9 = ra D t := by rw [am_up_n (by omega)]; exact a2
    have x10 : am_up (am_up M1 69 12 0) 69 11 (av D (ra D t) (rc D t) t) 69 10 = rc D t := by rw [am_up_n (by omega)]; exact b2
    rw [x9, x10]
    refine mp_below hd (Fq_m hm f3) pa pc (hq _ (Fq_u f3 (by omega)) ?_ (fun _ => ?_))
    · rw [am_up_s, eb, if_pos yes]
    · rw [am_up_n (by omega), am_up_s, et, if_pos yes]; rfl
def ff (D : am_M) (t v : Int) : Int := if rdb D t = 0 then -1 else ab (v * rdb D t - rdt D t)
theorem ff_b {c : Int} {D : am_M} (hd : OKd c D) {t v : Int} (ht : 0 ≤ t ∧ t ≤ 9999) (hv : -999 ≤ v ∧ v ≤ 999) : -1 ≤ ff D t v ∧ ff D t v ≤ 39956004 ∧ (v * rdb D t - rdt D t).natAbs ≤ 39956004 := by
  have hb := rd_b hd ht
  have p := sp_pb (x := v) (y := rdb D t) (a := 999) (b := 9999) (by omega) (by omega)
  unfold ff ab
  split <;> (try split) <;> omega
theorem mp_farFrom {t v : Int} {D M : am_M} {Q : Int → am_M → Prop} {c : Int} (hd : OKd c D) (hs : OKs D) (hm : Mqr (M 70) D) (ht : 0 ≤ t ∧ t ≤ 9999) (hv : -999 ≤ v ∧ v ≤ 999) (hq : ∀ M', Fq M M' → M' 69 12 = rdb D t → Q (ff D t v) M') : wp_X6_farFrom t v M Q := by
  have hb := rd_b hd ht
  have hf := ff_b hd ht hv
  refine mp_read hd hs hm ht (fun M1 f1 a1 b1 => ?_)
  have H := hq M1 f1 a1
  unfold ff at H
  rw [a1]
  refine ⟨by unfold am_rg; omega, fun e => ?_, fun e => ?_⟩
  · rw [if_neg e] at H
    rw [b1 e]
    exact mp_size (by unfold am_rg; omega) H
  · rw [if_pos (by omega)] at H
    exact H
theorem mp_isTrue {t v : Int} {D M : am_M} {Q : Int → am_M → Prop} {c : Int} (hd : OKd c D) (hs : OKs D) (hm : Mqr (M 70) D) (ht : 0 ≤ t ∧ t ≤ 9999) (hv : -999 ≤ v ∧ v ≤ 999) (hq : ∀ M', Fq M M' → Q (pi1 (tn D t v)) M') : wp_X6_isTrue t v M Q := by
  have hb := rd_b hd ht
  have ho := hd.2.2.2.1
  have hf := ff_b hd ht hv
  have p := sp_pb (x := D 6 0) (y := rdb D t) (a := 500) (b := 9999) (by omega) (by omega)
  refine mp_farFrom hd hs hm ht hv (fun M1 f1 a1 => ?_)
  have H := hq M1 f1
  have hm1 := Fq_m hm f1
  have ef : ff D t v = if rdb D t = 0 then -1 else ab (v * rdb D t - rdt D t) := rfl
  have hab : 0 ≤ ab (v * rdb D t - rdt D t) := by unfold ab; split <;> omega
  rw [a1, hm1.2.2.2.2.1]
  refine ⟨by unfold am_rg; omega, fun e => ?_, fun e => ⟨by unfold am_rg; omega, by unfold am_rg; omega, fun e2 => ?_, fun e2 => ?_⟩⟩
  · have z : rdb D t = 0 := by
      by_cases y : rdb D t = 0
      · exact y
      · rw [if_neg y] at ef; omega
    rw [pi1_f (fun w => w.1 z)] at H
    exact H
  · have z : rdb D t ≠ 0 := fun y => by rw [if_pos y] at ef; omega
    rw [if_neg z] at ef
    rw [pi1_f (fun w => by have := w.2; omega)] at H
    exact H
  · have z : rdb D t ≠ 0 := fun y => by rw [if_pos y] at ef; omega
    rw [if_neg z] at ef
    rw [pi1_t ⟨z, by omega⟩] at H
    exact H
/-- a point's own error, by the reading at its time -/
theorem ra_ek {c : Int} {D : am_M} (hd : OKd c D) (hs : OKs D) {p : Int} (hp : 0 ≤ p ∧ p < D 1 7) (hk : D 4 p ≠ 1) : rdb D (D 2 p) = eb D p ∧ ff D (D 2 p) (D 3 p) = et D p := by
  have n1 := hd.1
  have hnk : ¬ ((pl D (D 2 p) < D 1 7 ∧ D 4 (pl D (D 2 p)) = 1) ∧ D 2 (pl D (D 2 p)) = D 2 p) := by rw [pl_p hd hp]; exact fun z => hk z.1.2
  have e1 := ra_p hd hp
  have e2 : rc D (D 2 p) = kf D (D 1 7) (D 1 7 - (p + 1)).toNat := by rw [rc_rb hd hnk, rb_p hd hp]
  have g1 := kb_s D p.toNat
  have g2 := kf_s D (D 1 7) (D 1 7 - (p + 1)).toNat
  have ee : ek D p = if kb D p.toNat ≠ -1 ∧ D 5 (kb D p.toNat) = D 5 p then kb D p.toNat else -1 := rfl
  have el : lk D p = if kf D (D 1 7) (D 1 7 - (p + 1)).toNat ≠ -1 ∧ D 5 p = D 5 (kf D (D 1 7) (D 1 7 - (p + 1)).toNat) then kf D (D 1 7) (D 1 7 - (p + 1)).toNat else -1 := rfl
  generalize kb D p.toNat = a at *
  generalize kf D (D 1 7) (D 1 7 - (p + 1)).toNat = b at *
  by_cases z : a ≠ -1 ∧ b ≠ -1 ∧ D 5 a = D 5 b
  · have h1 := st_eq hs (i := a) (k := p) (j := b) (by omega) (by omega) (by omega) (by omega) z.2.2
    rw [if_pos ⟨z.1, h1.symm⟩] at ee
    rw [if_pos ⟨z.2.1, by omega⟩] at el
    have er : rdb D (D 2 p) = eb D p := by
      unfold rdb eb
      rw [if_neg hnk, if_neg hk, e1, e2, ee, el, if_pos z, if_pos ⟨z.1, z.2.1⟩]
    refine ⟨er, ?_⟩
    have hsp := span_b hd (a := a) (b := b) (by omega) (by omega) (by omega)
    have er2 : rdb D (D 2 p) = sp_span D a b := by
      rw [er]; unfold eb; rw [if_neg hk, ee, el, if_pos ⟨z.1, z.2.1⟩]
    unfold ff et
    rw [if_neg (by omega), if_neg hk, ee, el, if_pos ⟨z.1, z.2.1⟩, er2]
    unfold rdt
    rw [if_neg hnk, e1, e2, if_pos z]
    exact mi_av
  · have z2 : ¬ (ek D p ≠ -1 ∧ lk D p ≠ -1) := by
      intro y
      rw [ee, el] at y
      by_cases x1 : a ≠ -1 ∧ D 5 a = D 5 p
      · by_cases x2 : b ≠ -1 ∧ D 5 p = D 5 b
        · exact z ⟨x1.1, x2.1, x1.2.trans x2.2⟩
        · rw [if_neg x2] at y; exact y.2 rfl
      · rw [if_neg x1] at y; exact y.1 rfl
    have er : rdb D (D 2 p) = 0 := by
      unfold rdb
      rw [if_neg hnk, e1, e2, if_neg z]
    refine ⟨?_, ?_⟩
    · rw [er]; unfold eb; rw [if_neg hk, if_neg z2]
    · unfold ff et
      rw [if_pos er, if_neg hk, if_neg z2]
theorem ra_kept {c : Int} {D : am_M} (hd : OKd c D) {p : Int} (hp : 0 ≤ p ∧ p < D 1 7) (hk : D 4 p = 1) : rdb D (D 2 p) = eb D p ∧ ff D (D 2 p) (D 3 p) = et D p := by
  have y : (pl D (D 2 p) < D 1 7 ∧ D 4 (pl D (D 2 p)) = 1) ∧ D 2 (pl D (D 2 p)) = D 2 p := by rw [pl_p hd hp]; exact ⟨⟨hp.2, hk⟩, rfl⟩
  have er : rdb D (D 2 p) = 1 := by unfold rdb; rw [if_pos y]
  refine ⟨?_, ?_⟩
  · rw [er]; unfold eb; rw [if_pos hk]
  · unfold ff et
    rw [er, if_neg (by omega), if_pos hk]
    unfold rdt
    rw [if_pos y, pl_p hd hp]
    unfold ab
    split <;> omega
theorem ra_all {c : Int} {D : am_M} (hd : OKd c D) (hs : OKs D) {p : Int} (hp : 0 ≤ p ∧ p < D 1 7) : rdb D (D 2 p) = eb D p ∧ ff D (D 2 p) (D 3 p) = et D p := by
  by_cases z : D 4 p = 1
  · exact ra_kept hd hp z
  · exact ra_ek hd hs hp z
theorem bk_tn {c : Int} {D : am_M} (hd : OKd c D) (hs : OKs D) {p : Int} (hp : 0 ≤ p ∧ p < D 1 7) (hk : ¬ D 4 p = 1) : bk D p ↔ ¬ tn D (D 2 p) (D 3 p) := by
  obtain ⟨e1, e2⟩ := ra_ek hd hs hp hk
  have ef : ff D (D 2 p) (D 3 p) = if rdb D (D 2 p) = 0 then -1 else ab (D 3 p * rdb D (D 2 p) - rdt D (D 2 p)) := rfl
  have he := ek_s (D := D) hp.1
  have hl := lk_s (D := D) hp.2
  unfold bk tn
  have hbb : eb D p = if ek D p ≠ -1 ∧ lk D p ≠ -1 then sp_span D (ek D p) (lk D p) else 0 := by unfold eb; rw [if_neg hk]
  have htt : et D p = if ek D p ≠ -1 ∧ lk D p ≠ -1 then sp_mi D (ek D p) (lk D p) p else -1 := by unfold et; rw [if_neg hk]
  by_cases z : ek D p ≠ -1 ∧ lk D p ≠ -1
  · rw [if_pos z] at hbb htt
    have hsp := span_b hd (a := ek D p) (b := lk D p) (by omega) (by omega) (by omega)
    rw [if_neg (by omega)] at ef
    rw [← ef, e2, e1, htt, hbb]
    constructor
    · rintro ⟨-, h⟩ ⟨-, g⟩; exact h ⟨z.1, z.2, g⟩
    · intro h; exact ⟨hk, fun g => h ⟨by omega, g.2.2⟩⟩
  · rw [if_neg z] at hbb
    constructor
    · rintro - ⟨g, -⟩; exact g (by omega)
    · intro h; exact ⟨hk, fun g => z ⟨g.1, g.2.1⟩⟩
theorem mp_isBroken {p : Int} {D M : am_M} {Q : Int → am_M → Prop} {c : Int} (hd : OKd c D) (hs : OKs D) (hm : Mqr (M 70) D) (hp : 0 ≤ p ∧ p < D 1 7) (hq : ∀ M', Fq M M' → Q (pi1 (bk D p)) M') : wp_X6_isBroken p M Q := by
  refine mp_isKept hd hm hp (fun y => ⟨by unfold am_rg; omega, fun _ => ?_, fun e => absurd (by omega) e⟩) (fun y => ⟨by unfold am_rg; omega, fun e => absurd rfl e, fun _ => ?_⟩)
  · have H := hq M Fq_r
    rw [pi1_f (fun z => z.1 y)] at H
    exact H
  · refine mp_time hd hm hp (mp_value hd hm hp (mp_isTrue hd hs hm (OKd_t hd hp.1 hp.2) (OKd_v hd hp.1 hp.2) (fun M1 f1 => ?_)))
    have H := hq M1 f1
    have hb := bk_tn hd hs hp y
    by_cases z : tn D (D 2 p) (D 3 p)
    · rw [pi1_t z]
      rw [pi1_f (fun w => (hb.mp w) z)] at H
      exact ⟨by unfold am_rg; omega, fun _ => H, fun e => absurd (by omega) e⟩
    · rw [pi1_f z]
      rw [pi1_t (hb.mpr z)] at H
      exact ⟨by unfold am_rg; omega, fun e => absurd rfl e, fun _ => H⟩
theorem mp_common {x y : Int} {M : am_M} {Q : Int → am_M → Prop} (hx : 0 ≤ x ∧ x ≤ 2147483647) (hy : 0 ≤ y ∧ y ≤ 2147483647) (hq : Q (gd x y) M) : wp_X6_common x y M Q := by
  have loop : ∀ (r a b : Nat), b ≤ r → (a : Int) ≤ 2147483647 → (b : Int) ≤ 2147483647 → Q ((Nat.gcd a b : Nat) : Int) M → wl_X6_common_4 Q (r + 1) (a : Int) (b : Int) M := by
    intro r
    induction r with
    | zero =>
      intro a b hb ha hb2 hq
      have : b = 0 := by omega
      subst this
      rw [Nat.gcd_zero_right] at hq
      exact ⟨by unfold am_rg; omega, fun _ => hq, fun e => absurd rfl e⟩
    | succ r ih =>
      intro a b hb ha hb2 hq
      refine ⟨by unfold am_rg; omega, fun e => ?_, fun e => ⟨⟨by unfold am_rg; omega, by unfold am_rg; omega, by omega⟩, ?_⟩⟩
      · have : b = 0 := by omega
        subst this
        rw [Nat.gcd_zero_right] at hq
        exact hq
      · rw [← Int.ofNat_tmod]
        have hm := Nat.mod_lt a (show 0 < b by omega)
        refine ih b (a % b) (by omega) (by omega) (by omega) ?_
        rw [← gd_rec]
        exact hq
  obtain ⟨a, rfl⟩ := Int.eq_ofNat_of_zero_le hx.1
  obtain ⟨b, rfl⟩ := Int.eq_ofNat_of_zero_le hy.1
  unfold gd at hq
  rw [Int.natAbs_natCast, Int.natAbs_natCast] at hq
  exact ⟨_, loop b a b (Nat.le_refl _) (by omega) (by omega) hq⟩
theorem gd_ab {x y : Int} : gd (ab x) y = gd x y := by
  unfold gd ab
  split
  · rfl
  · rw [show (0 - x).natAbs = x.natAbs by omega]
theorem mp_lowest {x y w : Int} {M : am_M} {Q : Int → am_M → Prop} (hx : -2147483647 ≤ x ∧ x ≤ 2147483647) (hy : 1 ≤ y ∧ y ≤ 9999) (hw : am_rg w) (hq : Q (if w = 0 then Int.tdiv x (gd x y) else Int.tdiv y (gd x y)) M) : wp_X6_lowest x y w M Q := by
  have hg := gd_b (x := x) hy.1
  have hb : 0 ≤ ab x ∧ ab x ≤ 2147483647 := by unfold ab; split <;> omega
  refine mp_size (by unfold am_rg; omega) (mp_common hb (by omega) ?_)
  rw [gd_ab]
  refine ⟨hw, fun e => ⟨⟨by unfold am_rg; omega, by unfold am_rg; omega, by omega⟩, ?_⟩, fun e => ⟨⟨by unfold am_rg; omega, by unfold am_rg; omega, by omega⟩, ?_⟩⟩
  · rw [if_neg e] at hq; exact hq
  · rw [if_pos (by omega)] at hq; exact hq
theorem mp_errorOf {p w : Int} {D M : am_M} {Q : Int → am_M → Prop} {c : Int} (hd : OKd c D) (hs : OKs D) (hm : Mqr (M 70) D) (hp : 0 ≤ p ∧ p < D 1 7) (hw : am_rg w) (hq : ∀ M', Fq M M' → Q (eqq D p w) M') : wp_X6_errorOf p w M Q := by
  obtain ⟨e1, e2⟩ := ra_all hd hs hp
  have hb := ee_b hd hp
  refine mp_time hd hm hp (mp_value hd hm hp (mp_farFrom hd hs hm (OKd_t hd hp.1 hp.2) (OKd_v hd hp.1 hp.2) (fun M1 f1 a1 => ?_)))
  have H := hq M1 f1
  unfold eqq at H
  rw [e1] at a1
  rw [e2, a1]
  refine ⟨by unfold am_rg; omega, fun e => ?_, fun e => ?_⟩
  · rw [if_neg (by omega)] at H
    exact mp_lowest (by omega) (by omega) hw H
  · rw [if_pos (by omega)] at H
    exact H
theorem mp_isTrueNote {k : Int} {D M : am_M} {Q : Int → am_M → Prop} {c : Int} (hd : OKd c D) (hs : OKs D) (hm : Mqr (M 70) D) (hk : 0 ≤ k ∧ k < D 1 8) (hq : ∀ M', Fq M M' → Q (pi1 (tn D (D 7 k) (D 8 k))) M') : wp_X6_isTrueNote k M Q := by
  have h8 := hd.2.2.2.2.2.2.1
  have hn := hd.2.2.2.2.2.2.2.1 k hk.1 hk.2
  obtain ⟨m1, m2⟩ := hm.2.2.2.2.2.2.2.2 k hk.1 hk.2
  unfold wp_X6_isTrueNote
  rw [m1, m2]
  refine ⟨by omega, by omega, mp_isTrue hd hs hm hn.1 hn.2 (fun M1 f1 => ⟨pi1_b _, hq M1 f1⟩)⟩
