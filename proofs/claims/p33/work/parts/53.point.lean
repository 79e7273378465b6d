/-! the law's point, and sound -/
theorem lp_point {D M : am_M} {Q : Int → am_M → Prop} {X : am_X} {c p : Int} (hd : OKd c D) (hs : OKs D) (a : Ask D D M) (hp : 0 ≤ p ∧ p < D 1 7) (hq : ∀ M', Ask D D M' → Q 1 M') : wp_L_point p M Q X := by
  have n := hd.1
  have hd' := hd
  obtain ⟨-, h2d, hinc, o1, o2, -⟩ := hd'
  obtain ⟨ek1, ek2⟩ := ek_n (D := D) hp.1
  obtain ⟨lk1, lk2⟩ := lk_n (D := D) hp.1 hp.2
  have ne := nn_s (ek D p)
  have nl := nn_s (lk D p)
  have tp := h2d p hp.1 hp.2
  have rP : ∀ w, am_rg (pq D p w) := fun w => pq_b hd hs hp
  -- the last check of a dropped point with a reading
  have f471 : ∀ (x : Int) (M1 : am_M), D 4 p ≠ 1 → am_rg x → Ask D D M1 → wj_L_point_471 Q X p x x M1 := by
    intro x M1 hk hx a1
    refine ⟨hx, hx, fun e => absurd rfl e, fun _ => q_point hd hs a1 hp (by omega) (fun M2 a2 => ?_)⟩
    rw [pq_7, rk_1 hk]
    exact ⟨by unfold am_rg; omega, fun e => absurd rfl e, fun _ => hq M2 a2⟩
  have f336 : ∀ (s0 : Int) (M1 : am_M), D 4 p ≠ 1 → (s0 = 1 ∧ ek D p ≠ -1 ∧ lk D p ≠ -1 ∨ s0 = 0 ∧ ¬ (ek D p ≠ -1 ∧ lk D p ≠ -1)) → Ask D D M1 → wj_L_point_336 Q X p 1 (eqq D p 0) (eqq D p 1) s0 M1 := by
    intro s0 M1 hk h0 a1
    refine ⟨by unfold am_rg; omega, fun e => ?_, fun e => ?_⟩
    · have hb := h0.resolve_right (fun z => e z.1)
      obtain ⟨r1, r2, r3, r4, r5, r6, r7⟩ := er_rd hd hp hk hb.2.1 hb.2.2
      refine q_point hd hs a1 hp (by omega) (fun M2 a2 => ?_)
      rw [pq_0]
      refine q_reading hd hs a2 tp.1 (by omega) (fun M3 a3 => q_point hd hs a3 hp (by omega) (fun M4 a4 => ?_))
      rw [pq_0]
      refine q_reading hd hs a4 tp.1 (by omega) (fun M5 a5 => ?_)
      refine ⟨by unfold am_rg; omega, fun e => absurd e (by omega), fun _ => ⟨by unfold am_rg; omega, rqq_b hd tp.1, fun e => absurd r1 e, fun _ => ?_⟩⟩
      refine q_point hd hs a5 hp (by omega) (fun M6 a6 => ?_)
      rw [pq_1]
      have eab : ab (D 3 p * rqq D (D 2 p) 1 - rqq D (D 2 p) 0) = eqq D p 0 := r2.symm
      obtain ⟨d, hdd⟩ : ∃ d, d = D 3 p * rqq D (D 2 p) 1 - rqq D (D 2 p) 0 := ⟨_, rfl⟩
      rw [← hdd] at eab ⊢
      unfold ab at eab
      have tail : ∀ y M7, y = eqq D p 0 → Ask D D M7 → (am_rg (eqq D p 0)) ∧ (am_rg y) ∧ (¬ eqq D p 0 = y → Q 0 M7) ∧ (¬ (¬ eqq D p 0 = y) → wp_X5_point p 3 M7 (fun x25 M26 => wp_X5_setting 0 M26 (fun x27 M28 => (am_rg (eqq D p 0)) ∧ (am_rg (x27 * eqq D p 1)) ∧ (eqq D p 0 ≤ (x27 * eqq D p 1) → wj_L_point_471 Q X p 0 x25 M28) ∧ (¬ eqq D p 0 ≤ (x27 * eqq D p 1) → wj_L_point_471 Q X p 1 x25 M28)) X) X) := by
        intro y M7 hy a7
        refine ⟨by unfold am_rg; omega, by unfold am_rg; omega, fun e => absurd hy.symm e, fun _ => q_point hd hs a7 hp (by omega) (fun M8 a8 => q_setting a8 (by omega) ?_)⟩
        rw [pq_3]
        have pb : (D 6 0 * eqq D p 1).natAbs ≤ 500 * 9999 := sp_pb (by omega) (by omega)
        refine ⟨by unfold am_rg; omega, by unfold am_rg; omega, fun e => ?_, fun e => ?_⟩
        · rw [pi1_f (fun z => by have := r3.mpr z; omega)]
          exact f471 0 M8 hk (by unfold am_rg; omega) a8
        · rw [pi1_t (r3.mp (by omega))]
          exact f471 1 M8 hk (by unfold am_rg; omega) a8
      have hdr : am_rg d := by unfold am_rg; split at eab <;> omega
      refine ⟨hdr, fun e => tail d M6 (by rw [if_pos e] at eab; exact eab) a6, fun e => tail (-d) M6 (by rw [if_neg e] at eab; omega) a6⟩
    · have hb := (h0.resolve_left (fun z => by omega)).2
      obtain ⟨r1, r2, r3⟩ := nr_rd (D := D) hk hb
      rw [r1, r2]
      refine ⟨by unfold am_rg; omega, fun e => absurd e (by omega), fun _ => ⟨by unfold am_rg; omega, fun e => absurd rfl e, fun _ => ⟨by unfold am_rg; omega, fun e => absurd rfl e, fun _ => ?_⟩⟩⟩
      refine q_point hd hs a1 hp (by omega) (fun M2 a2 => ?_)
      rw [pq_3, pi1_t r3]
      refine ⟨by unfold am_rg; omega, fun e => absurd rfl e, fun _ => q_point hd hs a2 hp (by omega) (fun M3 a3 => ?_)⟩
      rw [pq_7, rk_1 hk]
      exact ⟨by unfold am_rg; omega, fun e => absurd rfl e, fun _ => hq M3 a3⟩
  have f236 : ∀ (s0 : Int) (M1 : am_M), (s0 = 1 ∧ D 4 p = 1 ∨ s0 = 0 ∧ D 4 p ≠ 1) → Ask D D M1 → wj_L_point_236 Q X p s0 (nn (ek D p)) (nn (lk D p)) 1 M1 := by
    intro s0 M1 h0 a1
    refine q_error hd hs a1 hp (by omega) (fun M2 a2 => q_error hd hs a2 hp (by omega) (fun M3 a3 => ⟨by unfold am_rg; omega, fun e => ?_, fun e => ?_⟩))
    · have hk := (h0.resolve_left (fun z => by omega)).2
      refine ⟨by unfold am_rg; omega, fun e => f336 0 M3 hk (Or.inr ⟨rfl, fun z => by omega⟩) a3, fun e => ⟨by unfold am_rg; omega, fun e => f336 0 M3 hk (Or.inr ⟨rfl, fun z => by omega⟩) a3, fun e => f336 1 M3 hk (Or.inl ⟨rfl, by omega, by omega⟩) a3⟩⟩
    · have hk := (h0.resolve_right (fun z => e z.1)).2
      obtain ⟨k1, k2, k3, k4, k5⟩ := kp_rd hd hp hk
      rw [k1, k2]
      refine ⟨by unfold am_rg; omega, fun e => absurd e (by omega), fun _ => ⟨by unfold am_rg; omega, fun e => absurd rfl e, fun _ => ⟨by unfold am_rg; omega, fun e => absurd rfl e, fun _ => q_point hd hs a3 hp (by omega) (fun M4 a4 => ?_)⟩⟩⟩
      rw [pq_3, pi1_f k3]
      refine ⟨by unfold am_rg; omega, fun e => absurd rfl e, fun _ => q_point hd hs a4 hp (by omega) (fun M5 a5 => ?_)⟩
      rw [pq_0]
      refine q_reading hd hs a5 tp.1 (by omega) (fun M6 a6 => q_point hd hs a6 hp (by omega) (fun M7 a7 => ?_))
      rw [pq_1, k4]
      refine ⟨by unfold am_rg; omega, by unfold am_rg; omega, fun e => absurd rfl e, fun _ => q_point hd hs a7 hp (by omega) (fun M8 a8 => ?_)⟩
      rw [pq_0]
      refine q_reading hd hs a8 tp.1 (by omega) (fun M9 a9 => ?_)
      rw [k5]
      exact ⟨by unfold am_rg; omega, fun e => absurd rfl e, fun _ => hq M9 a9⟩
  have loop : ∀ (s0 : Int), (s0 = 1 ∧ D 4 p = 1 ∨ s0 = 0 ∧ D 4 p ≠ 1) → ∀ (r k : Nat) (M1 : am_M), (k : Int) + r = D 1 7 → Ask D D M1 → wl_L_point_150 Q X (r + 1) p s0 (nn (ek D p)) (nn (lk D p)) 1 (k : Int) M1 := by
    intro s0 h0 r
    induction r with
    | zero =>
      intro k M1 hk a1
      refine q_count hd hs a1 (by omega) (fun M2 a2 => ?_)
      rw [cq_0]
      exact ⟨by unfold am_rg; omega, by unfold am_rg; omega, fun _ => f236 s0 M2 h0 a2, fun e => absurd (by omega) e⟩
    | succ r ih =>
      intro k M1 hk a1
      refine q_count hd hs a1 (by omega) (fun M2 a2 => ?_)
      rw [cq_0]
      refine ⟨by unfold am_rg; omega, by unfold am_rg; omega, fun e => absurd e (by omega), fun _ => ⟨by unfold am_rg; omega, fun e => absurd e (by omega), fun _ => ⟨by unfold am_rg; omega, by unfold am_rg; omega, ?_⟩⟩⟩
      have f205 : wj_L_point_205 Q X (wl_L_point_150 Q X (r + 1)) p s0 (nn (ek D p)) (nn (lk D p)) (k : Int) M2 := ⟨by unfold am_rg; omega, fun _ => ih (k + 1) M2 (by omega) a2, fun e => absurd rfl e⟩
      have f206 : ((k : Int) < p ∧ ek D p ≠ -1 ∧ ek D p < (k : Int) ∨ p < (k : Int) ∧ lk D p ≠ -1 ∧ (k : Int) < lk D p) → wj_L_point_206 Q X (wl_L_point_150 Q X (r + 1)) p s0 (nn (ek D p)) (nn (lk D p)) (k : Int) 1 M2 := by
        intro hz
        refine ⟨by unfold am_rg; omega, fun e => absurd e (by omega), fun _ => q_point hd hs a2 (by omega) (by omega) (fun M3 a3 => ?_)⟩
        rw [pq_2]
        have k01 := (h2d (k : Int) (by omega) (by omega)).2.2
        have kz : D 4 (k : Int) ≠ 1 := by
          rcases hz with ⟨z1, z2, z3⟩ | ⟨z1, z2, z3⟩
          · exact ek2 k z2 z3 z1
          · exact lk2 k z2 z1 z3
        exact ⟨by unfold am_rg; omega, fun e => absurd (by omega) e, fun _ => ih (k + 1) M3 (by omega) a3⟩
      have f198 : ∀ s, (0 ≤ nn (lk D p) ∧ s = nn (lk D p) ∨ ¬ 0 ≤ nn (lk D p) ∧ s = p) → ((k : Int) < p → ek D p ≠ -1 ∧ ek D p < (k : Int)) → (k : Int) ≠ p → wj_L_point_198 Q X (wl_L_point_150 Q X (r + 1)) p s0 (nn (ek D p)) (nn (lk D p)) (k : Int) s (k : Int) M2 := by
        intro s hs1 h1 h2
        refine ⟨by unfold am_rg; omega, by unfold am_rg; omega, fun _ => f205, fun e => f206 ?_⟩
        by_cases z : (k : Int) < p
        · exact Or.inl ⟨z, h1 z⟩
        · refine Or.inr ⟨by omega, ?_, ?_⟩ <;> omega
      have f182 : ∀ s, (0 ≤ nn (ek D p) ∧ s = nn (ek D p) ∨ ¬ 0 ≤ nn (ek D p) ∧ s = p) → (k : Int) ≠ p → wj_L_point_182 Q X (wl_L_point_150 Q X (r + 1)) p s0 (nn (ek D p)) (nn (lk D p)) (k : Int) s (k : Int) M2 := by
        intro s hs1 h2
        refine ⟨by unfold am_rg; omega, by unfold am_rg; omega, fun _ => f205, fun e => ⟨by unfold am_rg; omega, fun g => f198 _ (Or.inl ⟨g, rfl⟩) (fun z => by omega) h2, fun g => f198 _ (Or.inr ⟨g, rfl⟩) (fun z => by omega) h2⟩⟩
      exact ⟨fun _ => f205, fun e => ⟨by unfold am_rg; omega, fun g => f182 _ (Or.inl ⟨g, rfl⟩) e, fun g => f182 _ (Or.inr ⟨g, rfl⟩) e⟩⟩
  have f85 : ∀ (s0 : Int) (M1 : am_M), (s0 = 1 ∧ D 4 p = 1 ∨ s0 = 0 ∧ D 4 p ≠ 1) → Ask D D M1 → wj_L_point_85 Q X p s0 (nn (ek D p)) (nn (lk D p)) 1 M1 := by
    intro s0 M1 h0 a1
    have go : ∀ M2, Ask D D M2 → ∃ e, wl_L_point_150 Q X e p s0 (nn (ek D p)) (nn (lk D p)) 1 0 M2 := fun M2 a2 => ⟨_, loop s0 h0 (D 1 7).toNat 0 M2 (by omega) a2⟩
    refine ⟨by unfold am_rg; omega, fun e => absurd e (by omega), fun _ => ⟨by unfold am_rg; omega, fun e => ?_, fun e => ?_⟩⟩
    · have nl2 : nn (lk D p) = lk D p := by omega
      rw [nl2] at go ⊢
      obtain ⟨l1, l2, l3, l4⟩ := lk1.resolve_left (by omega)
      refine ⟨by unfold am_rg; omega, by unfold am_rg; omega, fun e => absurd e (by omega), fun _ => q_point hd hs a1 (by omega) (by omega) (fun M2 a2 => ?_)⟩
      rw [pq_2, l3]
      refine ⟨by unfold am_rg; omega, fun e => absurd rfl e, fun _ => q_point hd hs a2 (by omega) (by omega) (fun M3 a3 => q_point hd hs a3 hp (by omega) (fun M4 a4 => ?_))⟩
      have r4 := rP 4
      rw [pq_4] at r4
      rw [pq_4, pq_4, ← l4]
      exact ⟨r4, r4, fun e => absurd rfl e, fun _ => go M4 a4⟩
    · exact ⟨by unfold am_rg; omega, fun e => absurd (by omega) e, fun _ => go M1 a1⟩
  have f15 : ∀ (s0 : Int) (M1 : am_M), (s0 = 1 ∧ D 4 p = 1 ∨ s0 = 0 ∧ D 4 p ≠ 1) → Ask D D M1 → wj_L_point_15 Q X p s0 M1 := by
    intro s0 M1 h0 a1
    refine q_point hd hs a1 hp (by omega) (fun M2 a2 => q_point hd hs a2 hp (by omega) (fun M3 a3 => ?_))
    rw [pq_5, pq_6]
    refine ⟨by unfold am_rg; omega, fun e => ?_, fun e => ?_⟩
    · have ne2 : nn (ek D p) = ek D p := by omega
      have g85 := f85 s0
      rw [ne2] at g85 ⊢
      obtain ⟨l1, l2, l3, l4⟩ := ek1.resolve_left (by omega)
      refine ⟨by unfold am_rg; omega, by unfold am_rg; omega, fun e => absurd e (by omega), fun _ => q_point hd hs a3 (by omega) (by omega) (fun M4 a4 => ?_)⟩
      rw [pq_2, l3]
      refine ⟨by unfold am_rg; omega, fun e => absurd rfl e, fun _ => q_point hd hs a4 (by omega) (by omega) (fun M5 a5 => q_point hd hs a5 hp (by omega) (fun M6 a6 => ?_))⟩
      have r4 := rP 4
      rw [pq_4] at r4
      rw [pq_4, pq_4, l4]
      exact ⟨r4, r4, fun e => absurd rfl e, fun _ => g85 M6 h0 a6⟩
    · exact ⟨by unfold am_rg; omega, fun e => absurd (by omega) e, fun _ => f85 s0 M3 h0 a3⟩
  refine q_point hd hs a hp (by omega) (fun M2 a2 => ?_)
  rw [pq_2]
  exact ⟨by unfold am_rg; omega, fun e => f15 0 M2 (Or.inr ⟨rfl, e⟩) a2, fun e => f15 1 M2 (Or.inl ⟨rfl, by omega⟩) a2⟩
theorem cpq_0 {D : am_M} : cpq D 0 = (lmS D (D 1 7).toNat).1 := by unfold cpq; rw [if_pos (Or.inr rfl)]
/-- the cheapest point can be dropped, its error is within the oath -/
theorem cp_s {c : Int} {D : am_M} (hd : OKd c D) : cpq D 0 = -1000000 ∨ ((0 ≤ cpq D 0 ∧ cpq D 0 < D 1 7) ∧ rk D (cpq D 0) = 0 ∧ cpq D 1 ≤ D 6 0) := by
  have n := hd.1
  have hd' := hd
  obtain ⟨-, -, -, o1, -⟩ := hd'
  obtain ⟨hl, -⟩ := lm_b hd (D 1 7).toNat (by omega)
  rw [cpq_0]
  rcases hl with h | ⟨h1, h2, h3, h4, h5⟩
  · exact Or.inl h
  · refine Or.inr ⟨⟨h1, by omega⟩, h3, ?_⟩
    unfold cpq
    rw [if_neg (fun z => by omega)]
    obtain ⟨p, hP⟩ : ∃ p, p = (lmS D (D 1 7).toNat).1 := ⟨_, rfl⟩
    rw [← hP] at h1 h2 h3 ⊢
    obtain ⟨g1, g2⟩ := gm_b hd ⟨h1, by omega⟩ h3
    rw [cl_le g1.1 g2.1]
    have hr := h3
    obtain ⟨r1, r2, r3, r4, r5, -⟩ := rk_0 ⟨h1, by omega⟩ h3
    unfold rk at hr
    rw [if_neg (fun z => z r1), if_neg (fun z => by omega)] at hr
    have hs := span_b hd r2 (by omega : ek D p < lk D p) r5
    have h0 : 0 ≤ D 6 0 * sp_span D (ek D p) (lk D p) := Int.mul_nonneg o1.1 (by omega)
    unfold gm gs
    by_cases z : sp_mx D (ek D p) (lk D p) (lk D p - ek D p - 1).toNat ≤ D 6 0 * sp_span D (ek D p) (lk D p)
    · split <;> omega
    · rw [if_neg z] at hr; omega
theorem lp_sound {M : am_M} {Q : Int → am_M → Prop} {X : am_X} {c : Int} (hd : OKd c M) (hs : OKs M) (hv : NV M M) (hq : ∀ M', Ask M M M' → Q 1 M') : wp_L_sound M Q X := by
  have n := hd.1
  have hd' := hd
  obtain ⟨-, -, -, o1, -⟩ := hd'
  obtain ⟨D, hD⟩ : ∃ D, D = M := ⟨_, rfl⟩
  have a : Ask D D M := by rw [hD]; exact Ask_r hv
  rw [← hD] at hd hs hq n o1
  have f49 : ∀ M1, Ask D D M1 → wj_L_sound_49 Q X 1 M1 := by
    intro M1 a1
    refine q_cheapest hd hs a1 (by omega) (fun M2 a2 => ⟨by unfold am_rg; omega, fun e => absurd e (by omega), fun _ => ⟨cpq_b hd 0, fun e => ?_, fun e => ⟨cpq_b hd 0, fun e2 => ?_, fun _ => hq M2 a2⟩⟩⟩)
    · obtain ⟨z1, z2, z3⟩ := (cp_s hd).resolve_left (fun z => by omega)
      refine q_whyNot hd hs a2 z1 (fun M3 a3 => ?_)
      rw [z2]
      refine ⟨by unfold am_rg; omega, fun e => absurd rfl e, fun _ => q_cheapest hd hs a3 (by omega) (fun M4 a4 => q_setting a4 (by omega) ⟨cpq_b hd 1, by unfold am_rg; omega, fun e => absurd e (by omega), fun _ => hq M4 a4⟩)⟩
    · rcases cp_s hd with z | z
      · exact absurd z e2
      · exact absurd z.1.1 e
  have loop : ∀ (r k : Nat) (M1 : am_M), (k : Int) + r = D 1 7 → Ask D D M1 → wl_L_sound_24 Q X (r + 1) 1 (k : Int) M1 := by
    intro r
    induction r with
    | zero =>
      intro k M1 hk a1
      refine q_count hd hs a1 (by omega) (fun M2 a2 => ?_)
      rw [cq_0]
      exact ⟨by unfold am_rg; omega, by unfold am_rg; omega, fun _ => f49 M2 a2, fun e => absurd (by omega) e⟩
    | succ r ih =>
      intro k M1 hk a1
      refine q_count hd hs a1 (by omega) (fun M2 a2 => ?_)
      rw [cq_0]
      exact ⟨by unfold am_rg; omega, by unfold am_rg; omega, fun e => absurd e (by omega), fun _ => ⟨by unfold am_rg; omega, fun e => absurd e (by omega), fun _ => lp_point hd hs a2 (by omega) (fun M3 a3 => ih (k + 1) M3 (by omega) a3)⟩⟩
  refine lp_stretches hd hs a (fun M1 a1 => ⟨by unfold am_rg; omega, fun e => absurd e (by omega), fun _ => q_droppedShare hd a1 ?_⟩)
  obtain ⟨-, s1, s2⟩ := okv_1 (dsh_ok hd)
  exact ⟨s2, fun e => absurd s1 (by unfold shc; omega), fun _ => ⟨_, loop (D 1 7).toNat 0 M1 (by omega) a1⟩⟩
