/-! what the law's checks rest on: a point and its neighbors -/
theorem ek_n {D : am_M} {p : Int} (h0 : 0 ≤ p) : (ek D p = -1 ∨ (0 ≤ ek D p ∧ ek D p < p ∧ D 4 (ek D p) = 1 ∧ D 5 (ek D p) = D 5 p)) ∧ ∀ k, ek D p ≠ -1 → ek D p < k → k < p → D 4 k ≠ 1 := by
  have h := ek_s (D := D) h0
  refine ⟨h.imp id (fun z => ⟨z.1, z.2.1, z.2.2.1, z.2.2.2.1⟩), fun k hk k0 k1 => ?_⟩
  rcases h with h | ⟨h1, h2, h3, h4, h5⟩
  · exact absurd h hk
  · rcases kb_s D p.toNat with ⟨g1, g2⟩ | ⟨g1, g2, g3, g4⟩
    · exact g2 k (by omega) (by omega)
    · exact g4 k (by omega) (by omega)
theorem lk_n {D : am_M} {p : Int} (h0 : 0 ≤ p) (h1 : p < D 1 7) : (lk D p = -1 ∨ (p < lk D p ∧ lk D p < D 1 7 ∧ D 4 (lk D p) = 1 ∧ D 5 p = D 5 (lk D p))) ∧ ∀ k, lk D p ≠ -1 → p < k → k < lk D p → D 4 k ≠ 1 := by
  have h := lk_s (D := D) h1
  refine ⟨h.imp id (fun z => ⟨z.1, z.2.1, z.2.2.1, z.2.2.2.1⟩), fun k hk k0 k1 => ?_⟩
  rcases h with h | ⟨h1, h2, h3, h4, h5⟩
  · exact absurd h hk
  · rcases kf_s D (D 1 7) (D 1 7 - (p + 1)).toNat with ⟨g1, g2⟩ | ⟨g1, g2, g3, g4⟩
    · omega
    · exact g4 k (by omega) (by omega)
/-- what is kept next below is known by two properties -/
theorem ek_q {D : am_M} {p e : Int} (h0 : 0 ≤ e) (h1 : e < p) (h2 : D 4 e = 1) (h3 : D 5 e = D 5 p) (h4 : ∀ k, e < k → k < p → D 4 k ≠ 1) : ek D p = e := by
  have hk : kb D p.toNat = e := by
    rcases kb_s D p.toNat with ⟨g1, g2⟩ | ⟨g1, g2, g3, g4⟩
    · exact absurd h2 (g2 e h0 (by omega))
    · by_cases z : kb D p.toNat < e
      · exact absurd h2 (g4 e z (by omega))
      · by_cases y : e < kb D p.toNat
        · exact absurd g3 (h4 _ y (by omega))
        · omega
  unfold ek
  rw [hk, if_pos ⟨by omega, h3⟩]
theorem lk_q {D : am_M} {p e : Int} (h0 : 0 ≤ p) (h1 : p < e) (he : e < D 1 7) (h2 : D 4 e = 1) (h3 : D 5 p = D 5 e) (h4 : ∀ k, p < k → k < e → D 4 k ≠ 1) : lk D p = e := by
  have hk : kf D (D 1 7) (D 1 7 - (p + 1)).toNat = e := by
    rcases kf_s D (D 1 7) (D 1 7 - (p + 1)).toNat with ⟨g1, g2⟩ | ⟨g1, g2, g3, g4⟩
    · exact absurd h2 (g2 e (by omega) he)
    · by_cases z : kf D (D 1 7) (D 1 7 - (p + 1)).toNat < e
      · exact absurd g3 (h4 _ (by omega) z)
      · by_cases y : e < kf D (D 1 7) (D 1 7 - (p + 1)).toNat
        · exact absurd h2 (g4 e (by omega) y)
        · omega
  unfold lk
  rw [hk, if_pos ⟨by omega, h3⟩]
/-- no kept point of the stretch below: none is found -/
theorem ek_no {c : Int} {D : am_M} (hd : OKd c D) (hs : OKs D) {p : Int} (h1 : p < D 1 7) (h4 : ∀ k, 0 ≤ k → k < p → D 5 k = D 5 p → D 4 k ≠ 1) (h0 : 0 ≤ p) : ek D p = -1 := by
  rcases ek_s (D := D) h0 with h | ⟨a, b, d, e, -⟩
  · exact h
  · exact absurd d (h4 _ a b e)
theorem pl_p {c : Int} {D : am_M} (hd : OKd c D) {p : Int} (hp : 0 ≤ p ∧ p < D 1 7) : pl D (D 2 p) = p := by
  have hd' := hd
  obtain ⟨-, -, h3, -⟩ := hd'
  exact (pl_u hp.1 (by omega) (fun i i0 i1 => h3 i p i0 i1 hp.2) (fun _ => Int.le_refl _)).symm
theorem gd_sub {v s x : Int} : gd (v * s - x) s = gd x s := by
  unfold gd
  have h : Int.gcd (v * s - x) s = Int.gcd x s := by
    refine Nat.dvd_antisymm ?_ ?_
    · refine Int.dvd_gcd ?_ (Int.gcd_dvd_right ..)
      have h1 : (Int.gcd (v * s - x) s : Int) ∣ v * s - x := Int.gcd_dvd_left ..
      have h2 : (Int.gcd (v * s - x) s : Int) ∣ v * s := Int.dvd_mul_of_dvd_right (Int.gcd_dvd_right ..)
      have h3 := Int.dvd_sub h2 h1
      rwa [show v * s - (v * s - x) = x by omega] at h3
    · refine Int.dvd_gcd ?_ (Int.gcd_dvd_right ..)
      exact Int.dvd_sub (Int.dvd_mul_of_dvd_right (Int.gcd_dvd_right ..)) (Int.gcd_dvd_left ..)
  unfold Int.gcd at h
  rw [h]
theorem gd_ab {x y : Int} : gd (ab x) y = gd x y := by
  unfold gd
  have : (ab x).natAbs = x.natAbs := by unfold ab; split <;> omega
  rw [this]
/-- the error of a dropped point between two kept ones: the parts of its reading -/
theorem er_rd {c : Int} {D : am_M} (hd : OKd c D) {p : Int} (hp : 0 ≤ p ∧ p < D 1 7) (hk : D 4 p ≠ 1) (he : ek D p ≠ -1) (hl : lk D p ≠ -1) :
    eqq D p 1 = rqq D (D 2 p) 1 ∧ eqq D p 0 = ab (D 3 p * rqq D (D 2 p) 1 - rqq D (D 2 p) 0) ∧ (D 6 0 * eqq D p 1 < eqq D p 0 ↔ bk D p) ∧ 1 ≤ eqq D p 1 ∧ 0 ≤ eqq D p 0 ∧ eqq D p 0 ≤ 39960000 ∧ eqq D p 1 ≤ 9999 := by
  have hd' := hd
  obtain ⟨⟨n0, n1⟩, -⟩ := hd'
  have hpl := pl_p hd hp
  have e1 := ek_s (D := D) hp.1
  have l1 := lk_s (D := D) hp.2
  obtain ⟨e2, e3, e4, e5, e6⟩ := e1.resolve_left he
  obtain ⟨l2, l3, l4, l5, l6⟩ := l1.resolve_left hl
  have era : ra D (D 2 p) = ek D p := by unfold ra; rw [hpl, ← e6]
  have erc : rc D (D 2 p) = lk D p := by
    unfold rc
    rw [hpl, l6, show (D 1 7 - p).toNat = (D 1 7 - (p + 1)).toNat + 1 by omega]
    show (if D 4 (D 1 7 - (((D 1 7 - (p + 1)).toNat : Int) + 1)) = 1 then _ else _) = _
    rw [if_neg (by rw [show D 1 7 - (((D 1 7 - (p + 1)).toNat : Int) + 1) = p by omega]; exact hk)]
  have sp := span_b hd e2 (by omega : ek D p < lk D p) l3
  have mb := mi_b hd e2 (by omega : ek D p < lk D p) l3 hp.1 hp.2
  have hrdb : rdb D (D 2 p) = sp_span D (ek D p) (lk D p) := by
    unfold rdb
    rw [hpl, era, erc, if_neg (fun z => hk z.1.2), if_pos ⟨he, hl, e5.trans l5⟩]
  have hrdt : rdt D (D 2 p) = D 3 (ek D p) * sp_span D (ek D p) (lk D p) + sp_rise D (ek D p) (lk D p) * (D 2 p - D 2 (ek D p)) := by
    unfold rdt
    rw [hpl, era, erc, if_neg (fun z => hk z.1.2), if_pos ⟨he, hl, e5.trans l5⟩]
  have het : et D p = sp_mi D (ek D p) (lk D p) p := by unfold et; rw [if_neg hk, if_pos ⟨he, hl⟩]
  have heb : eb D p = sp_span D (ek D p) (lk D p) := by unfold eb; rw [if_neg hk, if_pos ⟨he, hl⟩]
  have hms : sp_ms D (ek D p) (lk D p) p = D 3 p * sp_span D (ek D p) (lk D p) - rdt D (D 2 p) := by
    rw [hrdt]
    unfold sp_ms
    rw [Int.sub_mul]
    omega
  have hmi : sp_mi D (ek D p) (lk D p) p = ab (D 3 p * sp_span D (ek D p) (lk D p) - rdt D (D 2 p)) := by
    unfold sp_mi ab
    rw [hms]
    split <;> omega
  have hbk : bk D p ↔ D 6 0 * sp_span D (ek D p) (lk D p) < sp_mi D (ek D p) (lk D p) p := by
    unfold bk
    constructor
    · intro z
      exact Int.not_le.mp (fun y => z.2 ⟨he, hl, y⟩)
    · intro z
      exact ⟨hk, fun y => absurd y.2.2 (by omega)⟩
  obtain ⟨s, hS⟩ : ∃ s, s = sp_span D (ek D p) (lk D p) := ⟨_, rfl⟩
  obtain ⟨x, hX⟩ : ∃ x, x = rdt D (D 2 p) := ⟨_, rfl⟩
  obtain ⟨m, hM⟩ : ∃ m, m = sp_mi D (ek D p) (lk D p) p := ⟨_, rfl⟩
  rw [← hS] at hrdb heb hbk hmi sp
  rw [← hM] at het hbk hmi mb
  rw [← hX] at hmi
  have hg : gd m s = gd x s := by rw [hmi, gd_ab, gd_sub]
  have q1 : eqq D p 1 = Int.tdiv s (gd x s) := by unfold eqq; rw [het, heb, if_neg (by omega), if_neg (by omega), hg]
  have q0 : eqq D p 0 = Int.tdiv m (gd x s) := by unfold eqq; rw [het, heb, if_neg (by omega), if_pos rfl, hg]
  have r1 : rqq D (D 2 p) 1 = Int.tdiv s (gd x s) := by unfold rqq; rw [hrdb, ← hX, if_neg (by omega), if_neg (by omega)]
  have r0 : rqq D (D 2 p) 0 = Int.tdiv x (gd x s) := by unfold rqq; rw [hrdb, ← hX, if_neg (by omega), if_pos rfl]
  have g1 := gd_b (x := x) sp.1
  obtain ⟨k1, k2, k3, k4, k5⟩ := gd_x (x := x) sp.1
  obtain ⟨j1, j2, j3, j4, j5⟩ := gd_x (x := m) sp.1
  rw [hg] at j1 j5
  rw [q1, q0, r1, r0]
  obtain ⟨g, hG⟩ : ∃ g, g = gd x s := ⟨_, rfl⟩
  rw [← hG] at k1 k2 k3 k4 k5 j1 j5 g1 ⊢
  obtain ⟨S, hS2⟩ : ∃ S, S = Int.tdiv s g := ⟨_, rfl⟩
  obtain ⟨Y, hY⟩ : ∃ Y, Y = Int.tdiv x g := ⟨_, rfl⟩
  obtain ⟨N, hN⟩ : ∃ N, N = Int.tdiv m g := ⟨_, rfl⟩
  rw [← hS2] at k2 k3 k4 ⊢
  rw [← hY] at k1 k5 ⊢
  rw [← hN] at j1 j5 ⊢
  have hNg : N * g = ab (D 3 p * S - Y) * g := by
    rw [← j1, hmi, ← ab_mul g1.1, Int.sub_mul, ← k1, Int.mul_assoc, ← k2]
  have hN2 : N = ab (D 3 p * S - Y) := Int.eq_of_mul_eq_mul_right (by omega) hNg
  have hN0 : 0 ≤ N := by rw [hN2]; unfold ab; split <;> omega
  refine ⟨rfl, hN2, ?_, k3, hN0, by omega, by omega⟩
  rw [hbk, j1]
  have e : D 6 0 * s = D 6 0 * S * g := by rw [Int.mul_assoc, ← k2]
  rw [e]
  constructor
  · intro z; exact Int.mul_lt_mul_of_pos_right z (by omega)
  · intro z; exact Int.lt_of_mul_lt_mul_right z (by omega)
/-- a kept point: its error is 0, its reading its value -/
theorem kp_rd {c : Int} {D : am_M} (hd : OKd c D) {p : Int} (hp : 0 ≤ p ∧ p < D 1 7) (hk : D 4 p = 1) : eqq D p 0 = 0 ∧ eqq D p 1 = 1 ∧ ¬ bk D p ∧ rqq D (D 2 p) 0 = D 3 p ∧ rqq D (D 2 p) 1 = 1 := by
  have hpl := pl_p hd hp
  have het : et D p = 0 := by unfold et; rw [if_pos hk]
  have heb : eb D p = 1 := by unfold eb; rw [if_pos hk]
  have hrdb : rdb D (D 2 p) = 1 := by unfold rdb; rw [hpl, if_pos ⟨⟨hp.2, hk⟩, rfl⟩]
  have hrdt : rdt D (D 2 p) = D 3 p := by unfold rdt; rw [hpl, if_pos ⟨⟨hp.2, hk⟩, rfl⟩]
  refine ⟨?_, ?_, fun z => z.1 hk, ?_, ?_⟩
  · unfold eqq; rw [het, heb, if_neg (by omega), if_pos rfl, Int.zero_tdiv]
  · unfold eqq; rw [het, heb, if_neg (by omega), if_neg (by omega), gd_1]; rfl
  · unfold rqq; rw [hrdb, hrdt, if_neg (by omega), if_pos rfl, gd_1, Int.tdiv_one]
  · unfold rqq; rw [hrdb, hrdt, if_neg (by omega), if_neg (by omega), gd_1]; rfl
/-- a dropped point without two kept neighbors -/
theorem nr_rd {D : am_M} {p : Int} (hk : D 4 p ≠ 1) (h : ¬ (ek D p ≠ -1 ∧ lk D p ≠ -1)) : eqq D p 0 = -1000000 ∧ eqq D p 1 = -1000000 ∧ bk D p := by
  have het : et D p = -1 := by unfold et; rw [if_neg hk, if_neg h]
  refine ⟨?_, ?_, hk, fun z => h ⟨z.1, z.2.1⟩⟩
  · unfold eqq; rw [het, if_pos (by omega)]
  · unfold eqq; rw [het, if_pos (by omega)]
theorem rk_1 {D : am_M} {p : Int} (hk : D 4 p ≠ 1) : rk D p = 1 := by unfold rk; rw [if_pos hk]
theorem rqq_b {c : Int} {D : am_M} (hd : OKd c D) {t w : Int} (ht : 0 ≤ t ∧ t ≤ 9999) : am_rg (rqq D t w) := by
  have hb := rd_b hd ht
  unfold rqq am_rg
  by_cases z : rdb D t = 0
  · rw [if_pos z]; omega
  · rw [if_neg z]
    obtain ⟨g1, g2, g3, g4, g5⟩ := gd_x (x := rdt D t) (y := rdb D t) (by omega)
    split <;> omega
theorem pq_0 {D : am_M} {p : Int} : pq D p 0 = D 2 p := by unfold pq; rw [if_pos rfl]
theorem pq_1 {D : am_M} {p : Int} : pq D p 1 = D 3 p := by unfold pq; rw [if_neg (by omega), if_pos rfl]
theorem pq_2 {D : am_M} {p : Int} : pq D p 2 = D 4 p := by unfold pq; rw [if_neg (by omega), if_neg (by omega), if_pos rfl]
theorem pq_3 {D : am_M} {p : Int} : pq D p 3 = pi1 (bk D p) := by unfold pq; rw [if_neg (by omega), if_neg (by omega), if_neg (by omega), if_pos rfl]
theorem pq_4 {D : am_M} {p : Int} : pq D p 4 = D 5 p := by unfold pq; rw [if_neg (by omega), if_neg (by omega), if_neg (by omega), if_neg (by omega), if_pos rfl]
theorem pq_5 {D : am_M} {p : Int} : pq D p 5 = nn (ek D p) := by unfold pq; rw [if_neg (by omega), if_neg (by omega), if_neg (by omega), if_neg (by omega), if_neg (by omega), if_pos rfl]
theorem pq_6 {D : am_M} {p : Int} : pq D p 6 = nn (lk D p) := by unfold pq; rw [if_neg (by omega), if_neg (by omega), if_neg (by omega), if_neg (by omega), if_neg (by omega), if_neg (by omega), if_pos rfl]
theorem pq_7 {D : am_M} {p : Int} : pq D p 7 = rk D p := by unfold pq; rw [if_neg (by omega), if_neg (by omega), if_neg (by omega), if_neg (by omega), if_neg (by omega), if_neg (by omega), if_neg (by omega)]
/-! the questions, asked again and again of one diary -/
section QUE
variable {D M : am_M} {Q : Int → am_M → Prop} {X : am_X} {c : Int}
theorem q_point {p w : Int} (hd : OKd c D) (hs : OKs D) (a : Ask D D M) (hp : 0 ≤ p ∧ p < D 1 7) (hw : 0 ≤ w ∧ w ≤ 7) (hq : ∀ M', Ask D D M' → Q (pq D p w) M') : wp_X5_point p w M Q X := by
  have n1 := hd.1
  exact dp_point hd hs (Fc_f Fr8_r a.1) a.2 (by unfold am_rg; omega) (by unfold am_rg; omega) (fun z => absurd hp z) (fun _ z => absurd hw z) (fun _ _ M' f => hq M' (Ask_t a f))
theorem q_error {p w : Int} (hd : OKd c D) (hs : OKs D) (a : Ask D D M) (hp : 0 ≤ p ∧ p < D 1 7) (hw : 0 ≤ w ∧ w ≤ 1) (hq : ∀ M', Ask D D M' → Q (eqq D p w) M') : wp_X5_error p w M Q X := by
  have n1 := hd.1
  exact dp_error hd hs (Fc_f Fr8_r a.1) a.2 (by unfold am_rg; omega) (by unfold am_rg; omega) (fun z => absurd hp z) (fun _ z => absurd hw z) (fun _ _ M' f => hq M' (Ask_t a f))
theorem q_reading {t w : Int} (hd : OKd c D) (hs : OKs D) (a : Ask D D M) (ht : 0 ≤ t ∧ t ≤ 9999) (hw : 0 ≤ w ∧ w ≤ 1) (hq : ∀ M', Ask D D M' → Q (rqq D t w) M') : wp_X5_reading t w M Q X :=
  dp_reading hd hs (Fc_f Fr8_r a.1) a.2 (by unfold am_rg; omega) (by unfold am_rg; omega) (fun z => absurd ⟨ht, hw⟩ z) (fun _ _ M' f => hq M' (Ask_t a f))
theorem q_stretch {s w : Int} (hd : OKd c D) (hs : OKs D) (a : Ask D D M) (hp : 0 ≤ s ∧ s < cs D) (hw : 0 ≤ w ∧ w ≤ 4) (hq : ∀ M', Ask D D M' → Q (sq D s w) M') : wp_X5_stretch s w M Q X := by
  have n1 := hd.1
  have n2 := cs_b hd hs
  exact dp_stretch hd hs (Fc_f Fr8_r a.1) a.2 (by unfold am_rg; omega) (by unfold am_rg; omega) (fun z => absurd hp z) (fun _ z => absurd hw z) (fun _ _ M' f => hq M' (Ask_t a f))
theorem q_count {w : Int} (hd : OKd c D) (hs : OKs D) (a : Ask D D M) (hw : 0 ≤ w ∧ w ≤ 10) (hq : ∀ M', Ask D D M' → Q (cq D (D 14 2) w) M') : wp_X5_count w M Q X := by
  refine dp_count hd hs (Fc_f Fr8_r a.1) a.2 (by unfold am_rg; omega) (fun z => absurd hw z) (fun _ M' f => ?_)
  rw [a.1 14 (by omega)]
  exact hq M' (Ask_t a f)
theorem q_setting {s : Int} (a : Ask D D M) (hw : 0 ≤ s ∧ s < 3) (hq : Q (D 6 s) M) : wp_X5_setting s M Q X :=
  dp_setting (Fc_f Fr8_r a.1) (by unfold am_rg; omega) (fun _ => hq) (fun z => absurd hw z)
theorem q_whyNot {p : Int} (hd : OKd c D) (hs : OKs D) (a : Ask D D M) (hp : 0 ≤ p ∧ p < D 1 7) (hq : ∀ M', Ask D D M' → Q (rk D p) M') : wp_X5_whyNot p M Q X := by
  have n1 := hd.1
  exact dp_whyNot hd hs (Fc_f Fr8_r a.1) a.2 (by unfold am_rg; omega) (fun z => absurd hp z) (fun _ M' f => hq M' (Ask_t a f))
theorem q_ifThinned {w : Int} (hd : OKd c D) (hs : OKs D) (a : Ask D D M) (hw : 0 ≤ w ∧ w ≤ 2) (hq : ∀ M', Ask D D M' → Q (chn D w (D 6 0)) M') : wp_X5_ifThinned w M Q X :=
  dp_ifThinned hd hs (Fc_f Fr8_r a.1) a.2 (by unfold am_rg; omega) (fun z => absurd hw z) (fun _ M' f => hq M' (Ask_t a f))
theorem q_leastOath {w : Int} (hd : OKd c D) (hs : OKs D) (a : Ask D D M) (hw : 0 ≤ w ∧ w ≤ 60) (hq : ∀ M', Ask D D M' → Q (lo D w) M') : wp_X5_leastOath w M Q X :=
  dp_leastOath hd hs (Fc_f Fr8_r a.1) a.2 (by unfold am_rg; omega) (fun z => absurd hw z) (fun _ M' f => hq M' (Ask_t a f))
theorem q_cheapest {w : Int} (hd : OKd c D) (hs : OKs D) (a : Ask D D M) (hw : 0 ≤ w ∧ w ≤ 1) (hq : ∀ M', Ask D D M' → Q (cpq D w) M') : wp_X5_cheapest w M Q X :=
  dp_cheapest hd hs (Fc_f Fr8_r a.1) a.2 (by unfold am_rg; omega) (fun z => absurd hw z) (fun _ M' f => hq M' (Ask_t a f))
theorem q_droppedShare {Q : UInt64 → am_M → Prop} (hd : OKd c D) (a : Ask D D M) (hq : Q (dsh D) M) : wp_X5_droppedShare M Q :=
  dp_droppedShare hd (Fc_f Fr8_r a.1) hq
theorem cq_0 {h : Int} : cq D h 0 = D 1 7 := by unfold cq; rw [if_pos rfl]
theorem cq_1 {h : Int} : cq D h 1 = kc D (D 1 7).toNat := by unfold cq; rw [if_neg (by omega), if_pos rfl]
theorem cq_2 {h : Int} : cq D h 2 = bm D 0 (D 1 7).toNat := by unfold cq; rw [if_neg (by omega), if_neg (by omega), if_pos rfl]
theorem cq_3 {h : Int} : cq D h 3 = cs D := by unfold cq; rw [if_neg (by omega), if_neg (by omega), if_neg (by omega), if_pos rfl]
theorem cq_8 {h : Int} : cq D h 8 = D 1 10 := by unfold cq; simp
end QUE
