def cutD (D : am_M) (a n : Int) : am_M := fun k j => if k = 2 ∨ k = 3 ∨ k = 4 then cutR (D k) a n j else if k = 1 ∧ j = 7 then D 1 7 - n else if k = 1 ∧ j = 10 then D 1 10 + n else D k j
theorem cutD_p {D : am_M} {a n : Int} {k : Nat} (h : k = 2 ∨ k = 3 ∨ k = 4) : cutD D a n k = cutR (D k) a n := by funext j; unfold cutD; rw [if_pos h]
theorem cutD_7 {D : am_M} {a n : Int} : cutD D a n 1 7 = D 1 7 - n := by unfold cutD; rw [if_neg (by omega), if_pos ⟨rfl, rfl⟩]
theorem cutD_10 {D : am_M} {a n : Int} : cutD D a n 1 10 = D 1 10 + n := by unfold cutD; rw [if_neg (by omega), if_neg (fun z => by omega), if_pos ⟨rfl, rfl⟩]
theorem cutD_1 {D : am_M} {a n j : Int} (h : j ≠ 7) (h2 : j ≠ 10) : cutD D a n 1 j = D 1 j := by unfold cutD; rw [if_neg (by omega), if_neg (fun z => h z.2), if_neg (fun z => h2 z.2)]
theorem cutD_k {D : am_M} {a n : Int} {k : Nat} (h : 4 < k) : cutD D a n k = D k := by funext j; unfold cutD; rw [if_neg (by omega), if_neg (fun z => by omega), if_neg (fun z => by omega)]
theorem OKd_cut {c a n : Int} {D : am_M} (hd : OKd c D) (hc : c + 1 ≤ 1000) (ha : 0 ≤ a) (hn : 0 ≤ n) (hs : a + n ≤ D 1 7) : OKd (c + 1) (cutD D a n) := by
  obtain ⟨h1, h2, h3, h4, h5, h6, h7, h8, h9, h10, h11⟩ := hd
  unfold OKd
  rw [cutD_p (Or.inl rfl), cutD_p (k := 3) (by omega), cutD_p (k := 4) (by omega), cutD_7, cutD_1 (by omega) (by omega), cutD_1 (by omega) (by omega), cutD_10, cutD_k (by omega), cutD_k (by omega), cutD_k (by omega)]
  unfold cutR
  refine ⟨by omega, fun i i0 i1 => ?_, fun i j i0 i1 i2 => ?_, h4, h5, h6, h7, h8, by omega, by omega, by omega⟩
  · by_cases z : i < a
    · simp only [if_pos z]; exact h2 i i0 (by omega)
    · simp only [if_neg z]; exact h2 (i + n) (by omega) (by omega)
  · by_cases z : i < a
    · rw [if_pos z]
      by_cases y : j < a
      · rw [if_pos y]; exact h3 i j i0 i1 (by omega)
      · rw [if_neg y]; exact h3 i (j + n) i0 (by omega) (by omega)
    · rw [if_neg z, if_neg (by omega)]; exact h3 (i + n) (j + n) (by omega) (by omega) (by omega)
theorem st_ivt {D : am_M} (hs : OKs D) : ∀ (k : Nat) (s : Int), (k : Int) < D 1 7 → 0 ≤ s → s ≤ D 5 (k : Int) → ∃ i, 0 ≤ i ∧ i ≤ (k : Int) ∧ D 5 i = s
  | 0, s, hk, h0, h1 => by
    have := st_0 hs (by omega)
    have e : D 5 ((0 : Nat) : Int) = D 5 0 := rfl
    exact ⟨0, by omega, by omega, by omega⟩
  | k + 1, s, hk, h0, h1 => by
    have st := st_step hs (i := (k : Int)) (by omega) (by omega)
    rw [show ((k + 1 : Nat) : Int) = (k : Int) + 1 by omega] at h1
    by_cases z : s ≤ D 5 (k : Int)
    · obtain ⟨i, a, b, d⟩ := st_ivt hs k s (by omega) h0 z
      exact ⟨i, a, by omega, d⟩
    · refine ⟨(k : Int) + 1, by omega, by omega, ?_⟩
      split at st <;> omega
theorem fo_in {c : Int} {D : am_M} (hd : OKd c D) (hs : OKs D) {s : Int} (h : 0 ≤ s ∧ s < cs D) : 0 ≤ fo D s ∧ fo D s < D 1 7 ∧ D 5 (fo D s) = s ∧ (∀ i, 0 ≤ i → i < fo D s → D 5 i ≠ s) ∧ 0 ≤ so D s ∧ fo D s + so D s ≤ D 1 7 := by
  obtain ⟨⟨n0, n1⟩, -⟩ := hd
  have hso := so_s hs (s := s) (D 1 7).toNat (by omega)
  have eso : so D s = sm (fun i => if D 5 i = s then 1 else 0) (D 1 7).toNat := rfl
  rw [← eso] at hso
  rcases fo_s (D := D) (s := s) n0 with ⟨-, no⟩ | ⟨a, b, d, e⟩
  · unfold cs at h
    by_cases z : D 1 7 = 0
    · rw [if_pos z] at h; omega
    · rw [if_neg z] at h
      obtain ⟨i, i0, i1, i2⟩ := st_ivt hs (D 1 7 - 1).toNat s (by omega) h.1 (by rw [show (((D 1 7 - 1).toNat : Nat) : Int) = D 1 7 - 1 by omega]; omega)
      exact absurd i2 (no i i0 (by omega))
  · refine ⟨a, b, d, e, hso.1, ?_⟩
    by_cases z : 0 < so D s
    · have := hso.2 z; omega
    · omega
theorem fo_fr {A B : am_M} (h : Fr8 A B) (s : Int) : fo B s = fo A s := by unfold fo; rw [fr_5 h, fr_1 h]
theorem so_fr {A B : am_M} (h : Fr8 A B) (s : Int) : so B s = so A s := by unfold so; rw [fr_5 h, fr_1 h]
theorem dp_tear {s : Int} {M : am_M} {Q : Int → am_M → Prop} {X : am_X} {c : Int} (hC : Cp c M) (hc : c + 1 ≤ 1000) (hp : am_rg s)
    (x2 : ¬ (0 ≤ s ∧ s < cs M) → X 2 M) (hq : 0 ≤ s ∧ s < cs M → ∀ M', Mut c M M' (cutD M (fo M s) (so M s)) → Q (so M s) M') : wp_X5_tear s M Q X := by
  obtain ⟨hd, hs, hN, r1, r2, ht⟩ := hC
  refine dp_refuseNoStretch hd hs Fr8_r hp (fun h => ?_) x2
  have hf := fo_in hd hs h
  refine dp_remember r1 r2 (fun M1 f1 e15 hp1 => ?_)
  have F := Fh_f f1
  refine dp_sizeOf hd hs F hp (dp_firstOf hd hs F hp ?_)
  have enn : nn (fo M s) = fo M s := by unfold nn; rw [if_neg (by omega)]
  rw [enn]
  have e1 : M1 1 = M 1 := fr_1 F
  refine dp_removeRun (OKd_fr hd F) hf.1 hf.2.2.2.2.1 (by rw [e1]; exact hf.2.2.2.2.2) (fun M2 f2 e17 rows => ?_)
  rw [e1] at e17 rows
  have g1 : ∀ j, j ≠ 7 → M2 1 j = M 1 j := fun j hj => by rw [f2.2 j hj, e1]
  have en : EQn (am_up M2 1 10 (M2 1 10 + so M s)) (cutD M (fo M s) (so M s)) := by
    refine ⟨?_, ?_, ?_, ?_, fun i i0 i1 => ?_, fun i i0 i1 => ?_, fun k k0 k1 => ?_⟩
    · rw [am_up_n (by omega), cutD_7, e17]
    · rw [am_up_n (by omega), cutD_1 (by omega) (by omega), g1 8 (by omega)]
    · rw [am_up_n (by omega), cutD_1 (by omega) (by omega), g1 9 (by omega)]
    · rw [am_up_s, cutD_10, g1 10 (by omega)]
    · rw [cutD_7] at i1
      rw [am_up_r (by omega), am_up_r (by omega), am_up_r (by omega), cutD_p (Or.inl rfl), cutD_p (k := 3) (by omega), cutD_p (k := 4) (by omega)]
      have a := rows i i0 i1
      rw [fr_2 F, fr_3 F, fr_4 F] at a
      exact a
    · rw [am_up_r (by omega), cutD_k (by omega), f2.1 6 (by omega), fr_6 F]
    · rw [am_up_r (by omega), am_up_r (by omega), cutD_k (by omega), cutD_k (by omega), f2.1 7 (by omega), f2.1 8 (by omega), fr_7 F, fr_8 F]
      exact ⟨rfl, rfl⟩
  refine Mut_pc (c := c) (M := M) (D' := cutD M (fo M s) (so M s)) (fun k k1 k2 => ?_) (HPc_t (fun _ _ => rfl) (fun k k1 k2 => ?_) hp1) en (OKd_cut hd hc hf.1 hf.2.2.2.2.1 hf.2.2.2.2.2) (fun M' m => hq h M' m)
  · rw [am_up_r (by omega), f2.1 k (by omega)]; exact f1 k (by omega)
  · rw [am_up_r (by omega)]; exact f2.1 k (by omega)
theorem dp_undo {M : am_M} {Q : Int → am_M → Prop} {X : am_X} {c : Int} (hC : Cp c M) (hd1 : 1 ≤ M 14 2 → OKd c (dia M (rwo M (M 14 2 - 1))))
    (x1 : M 14 2 = 0 → X 1 M) (hq : 1 ≤ M 14 2 → ∀ M', (∀ k, (k = 0 ∨ 14 < k) → M' k = M k) → M' 14 1 = M 14 1 → M' 14 2 = M 14 2 - 1 → EQn M' (dia M (rwo M (M 14 2 - 1))) → OKd c M' → OKs M' → NV M' M' → Q (M 14 2 - 1) M') : wp_X5_undo M Q X := by
  obtain ⟨hd, hs, hN, r1, r2, ht⟩ := hC
  refine ⟨by unfold am_rg; omega, fun e => ?_, fun e => x1 (by omega)⟩
  have hd2 := hd1 (by omega)
  refine dp_restore r1 (by omega) (fun M1 f1 e1 e2 eq => ?_)
  have d8 := hd2.2.2.2.2.2.2.1
  have d7 := hd2.1
  refine dp_pointsChanged (OKd_eq hd2 (EQD_s eq)) (fun M' g s d z => ?_)
  have e14 : M' 14 = M1 14 := g 14 (by omega) (by omega)
  rw [e14, e2]
  exact hq (by omega) M' (fun k hk => (g k (by omega) (by omega)).trans (f1 k (by omega))) (by rw [e14]; exact e1) (by rw [e14]; exact e2) (EQn_5 g (EQn_d eq d7.2 d8.2)) d s (Or.inl z)
