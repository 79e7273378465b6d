/-! tear -/
def cutD (D : am_M) (a n : Int) : am_M := fun k j => if k = 2 ∨ k = 3 ∨ k = 4 then cutR (D k) a n j else if k = 1 ∧ j = 7 then D 1 7 - n else if k = 1 ∧ j = 10 then D 1 10 + n else D k j
theorem cutD_p {D : am_M} {a n : Int} {k : Nat} (h : k = 2 ∨ k = 3 ∨ k = 4) : cutD D a n k = cutR (D k) a n := by funext j; unfold cutD; rw [if_pos h]
theorem cutD_7 {D : am_M} {a n : Int} : cutD D a n 1 7 = D 1 7 - n := by unfold cutD; rw [if_neg (by omega), if_pos ⟨rfl, rfl⟩]
theorem cutD_10 {D : am_M} {a n : Int} : cutD D a n 1 10 = D 1 10 + n := by unfold cutD; rw [if_neg (by omega), if_neg (fun z => by omega), if_pos ⟨rfl, rfl⟩]
theorem cutD_1 {D : am_M} {a n j : Int} (h : j ≠ 7) (h2 : j ≠ 10) : cutD D a n 1 j = D 1 j := by unfold cutD; rw [if_neg (by omega), if_neg (fun z => h z.2), if_neg (fun z => h2 z.2)]
theorem cutD_k {D : am_M} {a n : Int} {k : Nat} (h : 4 < k) : cutD D a n k = D k := by funext j; unfold cutD; rw [if_neg (by omega), if_neg (fun z => by omega), if_neg (fun z => by omega)]
theorem OKd_cut {c a n : Int} {D : am_M} (hd : OKd c D) (hc : c + 1 ≤ 1000) (ha : 0 ≤ a) (hn : 0 ≤ n) (hs : a + n ≤ D 1 7) : OKd (c + 1) (cutD D a n) := by
  obtain ⟨h1, h2, h3, h4, h5, h6, h7, h8, h9, h10, h11⟩ := hd
  unfold OKd
  rw [cutD_p (Or.inl rfl), cutD_p (k := 3) (by omega), cutD_p (k := 4) (by omega), cutD_7, cutD_1 (by omega) (by omega), cutD_1 (by omega) (by omega), cutD_10, cutD_k (by omega), cutD_k (by omega), cutD_k (by omega)]
  unfold cutR
  refine ⟨by omega, fun i i0 i1 => ?_, fun i j i0 i1 i2 => ?_, h4, h5, h6, h7, h8, by omega, by omega, by omega⟩
  · by_cases z : i < a
    · simp only [if_pos z]; exact h2 i i0 (by omega)
    · simp only [if_neg z]; exact h2 (i + n) (by omega) (by omega)
  · by_cases z : i < a
    · rw [if_pos z]
      by_cases y : j < a
      · rw [if_pos y]; exact h3 i j i0 i1 (by omega)
      · rw [if_neg y]; exact h3 i (j + n) i0 (by omega) (by omega)
    · rw [if_neg z, if_neg (by omega)]; exact h3 (i + n) (j + n) (by omega) (by omega) (by omega)
theorem st_ivt {D : am_M} (hs : OKs D) : ∀ (k : Nat) (s : Int), (k : Int) < D 1 7 → 0 ≤ s → s ≤ D 5 (k : Int) → ∃ i, 0 ≤ i ∧ i ≤ (k : Int) ∧ D 5 i = s
  | 0, s, hk, h0, h1 => by
    have := st_0 hs (by omega)
    have e : D 5 ((0 : Nat) : Int) = D 5 0 := rfl
    exact ⟨0, by omega, by omega, by omega⟩
  | k + 1, s, hk, h0, h1 => by
    have st := st_step hs (i := (k : Int)) (by omega) (by omega)
    rw [show ((k + 1 : Nat) : Int) = (k : Int) + 1 by omega] at h1
    by_cases z : s ≤ D 5 (k : Int)
    · obtain ⟨i, a, b, d⟩ := st_ivt hs k s (by omega) h0 z
      exact ⟨i, a, by omega, d⟩
    · refine ⟨(k : Int) + 1, by omega, by omega, ?_⟩
      split at st <;> omega
theorem fo_in {c : Int} {D : am_M} (hd : OKd c D) (hs : OKs D) {s : Int} (h : 0 ≤ s ∧ s < cs D) : 0 ≤ fo D s ∧ fo D s < D 1 7 ∧ D 5 (fo D s) = s ∧ (∀ i, 0 ≤ i → i < fo D s → D 5 i ≠ s) ∧ 0 ≤ so D s ∧ fo D s + so D s ≤ D 1 7 := by
  obtain ⟨⟨n0, n1⟩, -⟩ := hd
  have hso := so_s hs (s := s) (D 1 7).toNat (by omega)
  have eso : so D s = sm (fun i => if D 5 i = s then 1 else 0) (D 1 7).toNat := rfl
  rw [← eso] at hso
  rcases fo_s (D := D) (s := s) n0 with ⟨-, no⟩ | ⟨a, b, d, e⟩
  · unfold cs at h
    by_cases z : D 1 7 = 0
    · rw [if_pos z] at h; omega
    · rw [if_neg z] at h
      obtain ⟨i, i0, i1, i2⟩ := st_ivt hs (D 1 7 - 1).toNat s (by omega) h.1 (by rw [show (((D 1 7 - 1).toNat : Nat) : Int) = D 1 7 - 1 by omega]; omega)
      exact absurd i2 (no i i0 (by omega))
  · refine ⟨a, b, d, e, hso.1, ?_⟩
    by_cases z : 0 < so D s
    · have := hso.2 z; omega
    · omega
theorem fo_fr {A B : am_M} (h : Fr8 A B) (s : Int) : fo B s = fo A s := by unfold fo; rw [fr_5 h, fr_1 h]
theorem so_fr {A B : am_M} (h : Fr8 A B) (s : Int) : so B s = so A s := by unfold so; rw [fr_5 h, fr_1 h]
theorem dp_tear {s : Int} {M : am_M} {Q : Int → am_M → Prop} {X : am_X} {c : Int} (hC : Cp c M) (hc : c + 1 ≤ 1000) (hp : am_rg s)
    (x2 : ¬ (0 ≤ s ∧ s < cs M) → X 2 M) (hq : 0 ≤ s ∧ s < cs M → ∀ M', Mut c M M' (cutD M (fo M s) (so M s)) → Q (so M s) M') : wp_X5_tear s M Q X := by
  obtain ⟨hd, hs, hN, r1, r2, ht⟩ := hC
  refine dp_refuseNoStretch hd hs Fr8_r hp (fun h => ?_) x2
  have hf := fo_in hd hs h
  refine dp_remember r1 r2 (fun M1 f1 e15 hp1 => ?_)
  have F := Fh_f f1
  refine dp_sizeOf hd hs F hp (dp_firstOf hd hs F hp ?_)
  have enn : nn (fo M s) = fo M s := by unfold nn; rw [if_neg (by omega)]
  rw [enn]
  have e1 : M1 1 = M 1 := fr_1 F
  refine dp_removeRun (OKd_fr hd F) hf.1 hf.2.2.2.2.1 (by rw [e1]; exact hf.2.2.2.2.2) (fun M2 f2 e17 rows => ?_)
  rw [e1] at e17 rows
  have g1 : ∀ j, j ≠ 7 → M2 1 j = M 1 j := fun j hj => by rw [f2.2 j hj, e1]
  have en : EQn (am_up M2 1 10 (M2 1 10 + so M s)) (cutD M (fo M s) (so M s)) := by
    refine ⟨?_, ?_, ?_, ?_, fun i i0 i1 => ?_, fun i i0 i1 => ?_, fun k k0 k1 => ?_⟩
    · rw [am_up_n (by omega), cutD_7, e17]
    · rw [am_up_n (by omega), cutD_1 (by omega) (by omega), g1 8 (by omega)]
    · rw [am_up_n (by omega), cutD_1 (by omega) (by omega), g1 9 (by omega)]
    · rw [am_up_s, cutD_10, g1 10 (by omega)]
    · rw [cutD_7] at i1
      rw [am_up_r (by omega), am_up_r (by omega), am_up_r (by omega), cutD_p (Or.inl rfl), cutD_p (k := 3) (by omega), cutD_p (k := 4) (by omega)]
      have a := rows i i0 i1
      rw [fr_2 F, fr_3 F, fr_4 F] at a
      exact a
    · rw [am_up_r (by omega), cutD_k (by omega), f2.1 6 (by omega), fr_6 F]
    · rw [am_up_r (by omega), am_up_r (by omega), cutD_k (by omega), cutD_k (by omega), f2.1 7 (by omega), f2.1 8 (by omega), fr_7 F, fr_8 F]
      exact ⟨rfl, rfl⟩
  refine Mut_pc (c := c) (M := M) (D' := cutD M (fo M s) (so M s)) (fun k k1 k2 => ?_) (HPc_t (fun _ _ => rfl) (fun k k1 k2 => ?_) hp1) en (OKd_cut hd hc hf.1 hf.2.2.2.2.1 hf.2.2.2.2.2) (fun M' m => hq h M' m)
  · rw [am_up_r (by omega), f2.1 k (by omega)]; exact f1 k (by omega)
  · rw [am_up_r (by omega)]; exact f2.1 k (by omega)
/-! strike -/
/-- the same but for the notes -/
def S4 (D M : am_M) : Prop := M 1 7 = D 1 7 ∧ M 2 = D 2 ∧ M 3 = D 3 ∧ M 4 = D 4 ∧ M 5 = D 5 ∧ M 6 = D 6
theorem S4_sm {D M : am_M} (h : S4 D M) : Sm D M := ⟨h.1, h.2.1, h.2.2.1, h.2.2.2.2.1, h.2.2.2.2.2⟩
theorem kb_s4 {D M : am_M} (h : S4 D M) : ∀ i, kb M i = kb D i
  | 0 => rfl
  | i + 1 => by unfold kb; rw [h.2.2.2.1, kb_s4 h i]
theorem kf_s4 {D M : am_M} (h : S4 D M) (n : Int) : ∀ i, kf M n i = kf D n i
  | 0 => rfl
  | i + 1 => by unfold kf; rw [h.2.2.2.1, kf_s4 h n i]
theorem plr_s4 {D M : am_M} (h : S4 D M) (t n : Int) : ∀ i, plr M t n i = plr D t n i
  | 0 => rfl
  | i + 1 => by unfold plr; rw [h.2.1, plr_s4 h t n i]
theorem pl_s4 {D M : am_M} (h : S4 D M) (t : Int) : pl M t = pl D t := by unfold pl; rw [h.1, plr_s4 h]
theorem ra_s4 {D M : am_M} (h : S4 D M) (t : Int) : ra M t = ra D t := by unfold ra; rw [pl_s4 h, kb_s4 h]
theorem rc_s4 {D M : am_M} (h : S4 D M) (t : Int) : rc M t = rc D t := by unfold rc; rw [pl_s4 h, h.1, kf_s4 h]
theorem rdb_s4 {D M : am_M} (h : S4 D M) (t : Int) : rdb M t = rdb D t := by
  unfold rdb
  rw [pl_s4 h, ra_s4 h, rc_s4 h, span_sm (S4_sm h), h.1, h.2.1, h.2.2.2.1, h.2.2.2.2.1]
theorem rdt_s4 {D M : am_M} (h : S4 D M) (t : Int) : rdt M t = rdt D t := by
  unfold rdt
  rw [pl_s4 h, ra_s4 h, rc_s4 h, span_sm (S4_sm h), rise_sm (S4_sm h), h.1, h.2.1, h.2.2.1, h.2.2.2.1, h.2.2.2.2.1]
theorem tn_s4 {D M : am_M} (h : S4 D M) (t v : Int) : tn M t v ↔ tn D t v := by
  unfold tn
  rw [rdb_s4 h, rdt_s4 h, h.2.2.2.2.2]
def upR (f : Int → Int) (p x : Int) : Int → Int := fun j => if j = p then x else f j
noncomputable def stN (D : am_M) : Nat → Int × (Int → Int) × (Int → Int)
  | 0 => (0, D 7, D 8)
  | k + 1 => if pi1 (tn D (D 7 (k : Int)) (D 8 (k : Int))) = 1 then stN D k else ((stN D k).1 + 1, upR (stN D k).2.1 (stN D k).1 (D 7 (k : Int)), upR (stN D k).2.2 (stN D k).1 (D 8 (k : Int)))
noncomputable def skD (D : am_M) : am_M := fun k j => if k = 7 then (stN D (D 1 8).toNat).2.1 j else if k = 8 then (stN D (D 1 8).toNat).2.2 j else if k = 1 ∧ j = 8 then (stN D (D 1 8).toNat).1 else D k j
theorem skD_7 {D : am_M} : skD D 7 = (stN D (D 1 8).toNat).2.1 := by funext j; unfold skD; rw [if_pos rfl]
theorem skD_8 {D : am_M} : skD D 8 = (stN D (D 1 8).toNat).2.2 := by funext j; unfold skD; rw [if_neg (by omega), if_pos rfl]
theorem skD_18 {D : am_M} : skD D 1 8 = (stN D (D 1 8).toNat).1 := by unfold skD; rw [if_neg (by omega), if_neg (by omega), if_pos ⟨rfl, rfl⟩]
theorem skD_1 {D : am_M} {j : Int} (h : j ≠ 8) : skD D 1 j = D 1 j := by unfold skD; rw [if_neg (by omega), if_neg (by omega), if_neg (fun z => h z.2)]
theorem skD_k {D : am_M} {k : Nat} (h : k ≠ 1) (h7 : k ≠ 7) (h8 : k ≠ 8) : skD D k = D k := by funext j; unfold skD; rw [if_neg h7, if_neg h8, if_neg (fun z => h z.1)]
theorem stN_b {c : Int} {D : am_M} (hd : OKd c D) : ∀ k : Nat, (k : Int) ≤ D 1 8 → (0 ≤ (stN D k).1 ∧ (stN D k).1 ≤ (k : Int)) ∧ (∀ j, (k : Int) ≤ j → (stN D k).2.1 j = D 7 j ∧ (stN D k).2.2 j = D 8 j) ∧ (∀ j, 0 ≤ j → j < D 1 8 → (0 ≤ (stN D k).2.1 j ∧ (stN D k).2.1 j ≤ 9999) ∧ (-999 ≤ (stN D k).2.2 j ∧ (stN D k).2.2 j ≤ 999))
  | 0, _ => ⟨by unfold stN; simp, fun j _ => ⟨rfl, rfl⟩, fun j j0 j1 => hd.2.2.2.2.2.2.2.1 j j0 j1⟩
  | k + 1, h => by
    obtain ⟨h1, h2, h3⟩ := stN_b hd k (by omega)
    unfold stN
    by_cases z : pi1 (tn D (D 7 (k : Int)) (D 8 (k : Int))) = 1
    · rw [if_pos z]
      exact ⟨⟨h1.1, by omega⟩, fun j hj => h2 j (by omega), h3⟩
    · rw [if_neg z]
      have hk := hd.2.2.2.2.2.2.2.1 (k : Int) (by omega) (by omega)
      refine ⟨⟨by show 0 ≤ (stN D k).1 + 1; omega, by show (stN D k).1 + 1 ≤ ((k + 1 : Nat) : Int); omega⟩, fun j hj => ?_, fun j j0 j1 => ?_⟩
      · show upR (stN D k).2.1 (stN D k).1 (D 7 (k : Int)) j = D 7 j ∧ upR (stN D k).2.2 (stN D k).1 (D 8 (k : Int)) j = D 8 j
        unfold upR
        rw [if_neg (by omega), if_neg (by omega)]
        exact h2 j (by omega)
      · show (0 ≤ upR (stN D k).2.1 (stN D k).1 (D 7 (k : Int)) j ∧ upR (stN D k).2.1 (stN D k).1 (D 7 (k : Int)) j ≤ 9999) ∧ (-999 ≤ upR (stN D k).2.2 (stN D k).1 (D 8 (k : Int)) j ∧ upR (stN D k).2.2 (stN D k).1 (D 8 (k : Int)) j ≤ 999)
        unfold upR
        by_cases y : j = (stN D k).1
        · rw [if_pos y, if_pos y]; exact hk
        · rw [if_neg y, if_neg y]; exact h3 j j0 j1
theorem OKd_sk {c : Int} {D : am_M} (hd : OKd c D) : OKd c (skD D) := by
  have h8 := hd.2.2.2.2.2.2.1
  obtain ⟨b1, b2, b3⟩ := stN_b hd (D 1 8).toNat (by omega)
  obtain ⟨h1, h2, h3, h4, h5, h6, h7, h8, h9, h10, h11⟩ := hd
  unfold OKd
  rw [skD_7, skD_8, skD_18, skD_1 (by omega), skD_1 (by omega), skD_1 (by omega), skD_k (by omega) (by omega) (by omega), skD_k (by omega) (by omega) (by omega), skD_k (by omega) (by omega) (by omega), skD_k (by omega) (by omega) (by omega)]
  exact ⟨h1, h2, h3, h4, h5, h6, by omega, fun k k0 k1 => b3 k k0 (by omega), h9, h10, h11⟩
theorem dp_strike {M : am_M} {Q : Int → am_M → Prop} {c : Int} (hC : Cp c M) (hc : c + 1 ≤ 1000) (hq : ∀ M', Mut c M M' (skD M) → Q (stN M (M 1 8).toNat).1 M') : wp_X5_strike M Q := by
  obtain ⟨hd, hs, hN, r1, r2, ht⟩ := hC
  have h8 := hd.2.2.2.2.2.2.1
  refine dp_remember r1 r2 (fun M1 f1 e15 hp1 => ?_)
  have F := Fh_f f1
  have loop : ∀ (r k : Nat) (M2 : am_M), (k : Int) + r = M 1 8 → (∀ j, j ≠ 7 → j ≠ 8 → j ≠ 9 → M2 j = M1 j) → M2 7 = (stN M k).2.1 → M2 8 = (stN M k).2.2 → wl_X5_strike_15 Q (r + 1) (stN M k).1 (k : Int) M2 := by
    intro r
    induction r with
    | zero =>
      intro k M2 hk f e7 e8
      have e1 : M2 1 = M 1 := (f 1 (by omega) (by omega) (by omega)).trans (fr_1 F)
      rw [wl_X5_strike_15, e1]
      refine ⟨by unfold am_rg; omega, by unfold am_rg; omega, fun _ => ?_, fun e => absurd e (by omega)⟩
      rw [show k = (M 1 8).toNat by omega] at e7 e8 ⊢
      have s4 : S4 M (am_up M2 1 8 (stN M (M 1 8).toNat).1) := by
        refine ⟨?_, ?_, ?_, ?_, ?_, ?_⟩
        · rw [am_up_n (by omega), e1]
        · rw [am_up_r (by omega), f 2 (by omega) (by omega) (by omega)]; exact fr_2 F
        · rw [am_up_r (by omega), f 3 (by omega) (by omega) (by omega)]; exact fr_3 F
        · rw [am_up_r (by omega), f 4 (by omega) (by omega) (by omega)]; exact fr_4 F
        · rw [am_up_r (by omega), f 5 (by omega) (by omega) (by omega)]; exact fr_5 F
        · rw [am_up_r (by omega), f 6 (by omega) (by omega) (by omega)]; exact fr_6 F
      have en : EQn (am_up M2 1 8 (stN M (M 1 8).toNat).1) (skD M) := by
        refine ⟨?_, ?_, ?_, ?_, fun i i0 i1 => ?_, fun i i0 i1 => ?_, fun i i0 i1 => ?_⟩
        · rw [skD_1 (by omega), s4.1]
        · rw [skD_18, am_up_s]
        · rw [skD_1 (by omega), am_up_n (by omega), e1]
        · rw [skD_1 (by omega), am_up_n (by omega), e1]
        · rw [skD_k (by omega) (by omega) (by omega), skD_k (by omega) (by omega) (by omega), skD_k (by omega) (by omega) (by omega), s4.2.1, s4.2.2.1, s4.2.2.2.1]
          exact ⟨rfl, rfl, rfl⟩
        · rw [skD_k (by omega) (by omega) (by omega), s4.2.2.2.2.2]
        · rw [skD_7, skD_8, am_up_r (by omega), am_up_r (by omega), e7, e8]
          exact ⟨rfl, rfl⟩
      refine hq _ ⟨fun j j1 j2 => ?_, HPc_t (fun _ _ => rfl) (fun j j1 j2 => ?_) hp1, en, OKd_n (OKd_sk (OKd_c hd (by omega) hc)) en, OKs_sm hs (S4_sm s4), NV_sm (NV_m hN ?_ ?_) (S4_sm s4)⟩
      · rw [am_up_r (by omega), f j (by omega) (by omega) (by omega)]; exact f1 j (by omega)
      · rw [am_up_r (by omega)]; exact f j (by omega) (by omega) (by omega)
      · rw [am_up_r (by omega), f 10 (by omega) (by omega) (by omega)]; exact f1 10 (by omega)
      · rw [am_up_r (by omega), f 13 (by omega) (by omega) (by omega)]; exact f1 13 (by omega)
    | succ r ih =>
      intro k M2 hk f e7 e8
      have e1 : M2 1 = M 1 := (f 1 (by omega) (by omega) (by omega)).trans (fr_1 F)
      obtain ⟨b1, b2, b3⟩ := stN_b hd k (by omega)
      have s4 : S4 M M2 := ⟨by rw [e1], (f 2 (by omega) (by omega) (by omega)).trans (fr_2 F), (f 3 (by omega) (by omega) (by omega)).trans (fr_3 F), (f 4 (by omega) (by omega) (by omega)).trans (fr_4 F), (f 5 (by omega) (by omega) (by omega)).trans (fr_5 F), (f 6 (by omega) (by omega) (by omega)).trans (fr_6 F)⟩
      have hd2 : OKd c M2 := by
        have hd' := hd
        obtain ⟨h1, h2, h3, h4, h5, h6, h7, h8, h9, h10, h11⟩ := hd'
        unfold OKd
        rw [e1, e7, e8, s4.2.1, s4.2.2.1, s4.2.2.2.1, s4.2.2.2.2.2]
        exact ⟨h1, h2, h3, h4, h5, h6, h7, b3, h9, h10, h11⟩
      have k7 : M2 7 (k : Int) = M 7 (k : Int) := by rw [e7]; exact (b2 k (by omega)).1
      have k8 : M2 8 (k : Int) = M 8 (k : Int) := by rw [e8]; exact (b2 k (by omega)).2
      have et : pi1 (tn M2 (M2 7 (k : Int)) (M2 8 (k : Int))) = pi1 (tn M (M 7 (k : Int)) (M 8 (k : Int))) := by
        rw [k7, k8]
        by_cases z : tn M (M 7 (k : Int)) (M 8 (k : Int))
        · rw [pi1_t z, pi1_t ((tn_s4 s4 _ _).mpr z)]
        · rw [pi1_f z, pi1_f (fun y => z ((tn_s4 s4 _ _).mp y))]
      have h := ih (k + 1)
      have es : stN M (k + 1) = if pi1 (tn M (M 7 (k : Int)) (M 8 (k : Int))) = 1 then stN M k else ((stN M k).1 + 1, upR (stN M k).2.1 (stN M k).1 (M 7 (k : Int)), upR (stN M k).2.2 (stN M k).1 (M 8 (k : Int))) := rfl
      rw [es] at h
      rw [wl_X5_strike_15, e1]
      refine ⟨by unfold am_rg; omega, by unfold am_rg; omega, fun e => absurd e (by omega), fun _ => ?_⟩
      refine dp_true01 hd2 (OKs_sm hs (S4_sm s4)) Fr8_r ⟨by omega, by rw [e1]; omega⟩ (fun M3 f3 => ?_)
      rw [et]
      have f' : ∀ j, j ≠ 7 → j ≠ 8 → j ≠ 9 → M3 j = M1 j := fun j a b d => (f3 j d).trans (f j a b d)
      have e7' : M3 7 = (stN M k).2.1 := (f3 7 (by omega)).trans e7
      have e8' : M3 8 = (stN M k).2.2 := (f3 8 (by omega)).trans e8
      rcases pi1_b (tn M (M 7 (k : Int)) (M 8 (k : Int))) with z | z
      · rw [if_neg (by omega)] at h
        rw [z]
        refine ⟨by unfold am_rg; omega, fun e => absurd rfl e, fun _ => ⟨by omega, by omega, by omega, by omega, ?_⟩⟩
        refine h _ (by omega) (fun j a b d => by rw [am_up_r b, am_up_r a]; exact f' j a b d) ?_ ?_
        · rw [am_up_r (by omega)]
          funext j
          show am_up M3 7 (stN M k).1 (M3 7 (k : Int)) 7 j = upR (stN M k).2.1 (stN M k).1 (M 7 (k : Int)) j
          unfold upR
          by_cases y : j = (stN M k).1
          · rw [y, am_up_s, if_pos rfl, e7', ← e7, k7]
          · rw [am_up_n y, if_neg y, e7']
        · funext j
          show am_up (am_up M3 7 (stN M k).1 (M3 7 (k : Int))) 8 (stN M k).1 (am_up M3 7 (stN M k).1 (M3 7 (k : Int)) 8 (k : Int)) 8 j = upR (stN M k).2.2 (stN M k).1 (M 8 (k : Int)) j
          unfold upR
          by_cases y : j = (stN M k).1
          · rw [y, am_up_s, if_pos rfl, am_up_r (by omega), e8', ← e8, k8]
          · rw [am_up_n y, if_neg y, am_up_r (by omega), e8']
      · rw [if_pos z] at h
        rw [z]
        exact ⟨by unfold am_rg; omega, fun _ => h M3 (by omega) f' e7' e8', fun e => absurd (by omega) e⟩
  exact ⟨_, loop (M 1 8).toNat 0 M1 (by omega) (fun _ _ _ _ => rfl) (fr_7 F) (fr_8 F)⟩
/-! texts -/
theorem dp_append {a : Int} {M : am_M} {Q : Int → am_M → Prop} {X : am_X} (ht : OKt M) (ha : am_rg a) (x0 : ¬ (33 ≤ a ∧ a ≤ 126) → X 0 M) (x1 : 33 ≤ a ∧ a ≤ 126 → M 64 1 = 60 → X 1 M)
    (hq : 33 ≤ a ∧ a ≤ 126 → M 64 1 < 60 → Q (M 64 1 + 1) (am_up (am_up M 65 (M 64 1) a) 64 1 (M 64 1 + 1))) : wp_X5_append a M Q X := by
  obtain ⟨⟨l0, l1⟩, -⟩ := ht
  refine ⟨ha, fun e => x0 (by omega), fun e => ⟨ha, fun e2 => ⟨by unfold am_rg; omega, fun e3 => ⟨by unfold am_rg; omega, fun e4 => absurd e4 (by omega), fun _ => ⟨by unfold am_rg; omega, fun e5 => absurd e5 (by omega), fun _ => ⟨⟨l0, e3⟩, ?_⟩⟩⟩, fun e3 => x1 (by omega) (by omega)⟩, fun e2 => x0 (by omega)⟩⟩
  have h := hq (by omega) e3
  rw [am_up_r (k := 65) (k' := 64) (by omega)]
  show Q (am_up (am_up M 65 (M 64 1) a) 64 1 (M 64 1 + 1) 64 1) _
  rw [am_up_s]
  exact h
theorem dp_firstError {M : am_M} {Q : Int → am_M → Prop} (ht : OKt M) (hq : ∀ r, GL (M 65) (M 64 1) r → Q r M) : wp_X5_firstError M Q := dp_goodLength ht hq
/-- the points may all be added -/
def frP (D : am_M) (ts : Int → Int) (m : Int) : Prop := ∀ i, 0 ≤ i → i < m → (∀ j, 0 ≤ j → j < D 1 7 → D 2 j ≠ ts i) ∧ ∀ j, 0 ≤ j → j < i → ts j ≠ ts i
theorem dp_parsedTimesAreFree {ts : Int → Int} {m : Int} {D M : am_M} {Q : Int → am_M → Prop} {c : Int} (hd : OKd c D) (hf : Fr8 D M) (e4 : M 64 4 = m) (hm : 0 ≤ m ∧ m ≤ 60) (hts : ∀ k, 0 ≤ k → k < m → M 66 k = ts k ∧ am_rg (ts k)) (q1 : frP D ts m → Q 1 M) (q0 : ¬ frP D ts m → Q 0 M) : wp_X5_parsedTimesAreFree M Q := by
  have inner : ∀ (k2 : Int → am_M → Prop) (i : Int), 0 ≤ i → i < m → ((∀ j, 0 ≤ j → j < i → ts j ≠ ts i) → k2 (i + 1) M) → ∀ (r : Nat) (j : Int), 0 ≤ j → j + r = i → (∀ j', 0 ≤ j' → j' < j → ts j' ≠ ts i) → wl_X5_parsedTimesAreFree_36 Q k2 (r + 1) i j M := by
    intro k2 i i0 i1 hk r
    induction r with
    | zero =>
      intro j j0 hj inv
      exact ⟨by unfold am_rg; omega, by unfold am_rg; omega, fun _ => hk (fun j' a b => inv j' a (by omega)), fun e => absurd e (by omega)⟩
    | succ r ih =>
      intro j j0 hj inv
      obtain ⟨a1, a2⟩ := hts j j0 (by omega)
      obtain ⟨b1, b2⟩ := hts i i0 (by omega)
      refine ⟨by unfold am_rg; omega, by unfold am_rg; omega, fun e => absurd e (by omega), fun _ => ⟨by omega, by omega, ?_⟩⟩
      rw [a1, b1]
      refine ⟨a2, b2, fun e => ih (j + 1) (by omega) (by omega) (fun j' x y => ?_), fun e => q0 (fun z => e (fun y => (z i i0 i1).2 j j0 (by omega) y))⟩
      by_cases z : j' = j
      · rw [z]; exact e
      · exact inv j' x (by omega)
  have outer : ∀ (r : Nat) (i : Int), 0 ≤ i → i + r = m → (∀ i', 0 ≤ i' → i' < i → (∀ j, 0 ≤ j → j < D 1 7 → D 2 j ≠ ts i') ∧ ∀ j, 0 ≤ j → j < i' → ts j ≠ ts i') → wl_X5_parsedTimesAreFree_2 Q (r + 1) i M := by
    intro r
    induction r with
    | zero =>
      intro i i0 hi inv
      exact ⟨by unfold am_rg; omega, by unfold am_rg; omega, fun _ => q1 (fun i' a b => inv i' a (by omega)), fun e => absurd e (by omega)⟩
    | succ r ih =>
      intro i i0 hi inv
      obtain ⟨a1, a2⟩ := hts i i0 (by omega)
      refine ⟨by unfold am_rg; omega, by unfold am_rg; omega, fun e => absurd e (by omega), fun _ => ⟨by omega, ?_⟩⟩
      rw [a1]
      refine dp_hasTime hd hf a2 (fun p p0 p1 p2 => ⟨by unfold am_rg; omega, fun e => absurd e (by omega), fun _ => q0 (fun z => (z i i0 (by omega)).1 p p0 p1 p2)⟩) (fun no => ⟨by unfold am_rg; omega, fun _ => ⟨i.toNat + 1, inner _ i i0 (by omega) (fun h2 => ih (i + 1) (by omega) (by omega) (fun i' x y => ?_)) i.toNat 0 (by omega) (by omega) (fun j' x y => by omega)⟩, fun e => absurd rfl e⟩)
      by_cases z : i' = i
      · rw [z]; exact ⟨no, h2⟩
      · exact inv i' x (by omega)
  exact ⟨_, outer m.toNat 0 (by omega) (by omega) (fun i' a b => by omega)⟩
def IN (D : am_M) (ts vs : Int → Int) : Nat → am_M
  | 0 => D
  | k + 1 => insD (IN D ts vs k) (ts (k : Int)) (vs (k : Int))
theorem IN_17 {D : am_M} {ts vs : Int → Int} : ∀ k : Nat, IN D ts vs k 1 7 = D 1 7 + (k : Int)
  | 0 => by show D 1 7 = D 1 7 + ((0 : Nat) : Int); omega
  | k + 1 => by
    show insD (IN D ts vs k) (ts (k : Int)) (vs (k : Int)) 1 7 = _
    rw [insD_7, IN_17 k]
    omega
theorem insR_in {f : Int → Int} {p x y i n : Int} (hp : 0 ≤ p ∧ p ≤ n) (h : ∀ j, 0 ≤ j → j < n → f j ≠ y) (hx : x ≠ y) (i0 : 0 ≤ i) (i1 : i < n + 1) : insR f p x i ≠ y := by
  unfold insR
  split
  · exact h i i0 (by omega)
  · split
    · exact hx
    · exact h (i - 1) (by omega) (by omega)
theorem IN_s {c m : Int} {D : am_M} {ts vs : Int → Int} (hd : OKd c D) (hr : ∀ k, 0 ≤ k → k < m → (0 ≤ ts k ∧ ts k ≤ 9999) ∧ (-999 ≤ vs k ∧ vs k ≤ 999)) (hn : D 1 7 + m ≤ 60) (hf : frP D ts m) : ∀ k : Nat, (k : Int) ≤ m → OKd c (IN D ts vs k) ∧ ∀ i, (k : Int) ≤ i → i < m → ∀ j, 0 ≤ j → j < IN D ts vs k 1 7 → IN D ts vs k 2 j ≠ ts i
  | 0, _ => ⟨hd, fun i i0 i1 => (hf i (by omega) i1).1⟩
  | k + 1, h => by
    obtain ⟨ih1, ih2⟩ := IN_s hd hr hn hf k (by omega)
    have r := hr (k : Int) (by omega) (by omega)
    have e := IN_17 (D := D) (ts := ts) (vs := vs) k
    refine ⟨OKd_ins ih1 r.1 r.2 (by omega) (ih2 k (by omega) (by omega)), fun i i0 i1 j j0 j1 => ?_⟩
    have e2 : IN D ts vs (k + 1) = insD (IN D ts vs k) (ts (k : Int)) (vs (k : Int)) := rfl
    rw [e2, insD_7] at j1
    rw [e2, insD_2]
    have hp := pl_s (D := IN D ts vs k) (t := ts (k : Int)) ih1.1.1
    exact insR_in ⟨hp.1, hp.2.1⟩ (fun j' a b => ih2 i (by omega) i1 j' a b) ((hf i (by omega) i1).2 k (by omega) (by omega)) j0 (by omega)
/-- a change by a text -/
def MutT (c : Int) (M M' D' : am_M) : Prop := (∀ k, (k = 0 ∨ 63 < k) → k ≠ 64 → k ≠ 66 → k ≠ 67 → k ≠ 68 → M' k = M k) ∧ M' 64 1 = 0 ∧ HPc M M' ∧ EQn M' D' ∧ OKd (c + 1) M' ∧ OKs M' ∧ NV M' M'
/-- only what readRow reads into -/
def Frd (M M' : am_M) : Prop := (∀ k, k ≠ 64 → k ≠ 66 → k ≠ 67 → M' k = M k) ∧ (∀ j, j ≠ 4 → M' 64 j = M 64 j)
def rw8 (M : am_M) : Prop := 8 ≤ st (M 65) (M 64 1).toNat
def nP (M : am_M) : Int := cn (M 65) (M 64 1).toNat + 1
def tP (M : am_M) (k : Int) : Int := TP (M 65) (M 64 1).toNat k
def vP (M : am_M) (k : Int) : Int := VP (M 65) (M 64 1).toNat k
theorem tP_b {M : am_M} (ht : OKt M) (h : rw8 M) : (1 ≤ nP M ∧ nP M ≤ 16) ∧ ∀ k, 0 ≤ k → k < nP M → (0 ≤ tP M k ∧ tP M k ≤ 9999) ∧ (-999 ≤ vP M k ∧ vP M k ≤ 999) := by
  unfold rw8 at h
  obtain ⟨⟨l0, l1⟩, -⟩ := ht
  have hne : st (M 65) (M 64 1).toNat ≠ -1 := by omega
  have hb := st_b (M 65) (M 64 1).toNat
  have hc := cn_b hne
  obtain ⟨a, b⟩ := tx_b (M 65) (M 64 1).toNat hne
  unfold nP tP vP
  refine ⟨by omega, fun k k0 k1 => ?_⟩
  unfold TP VP
  by_cases z : k = cn (M 65) (M 64 1).toNat
  · rw [if_pos z, if_pos z]
    unfold TXN at a
    obtain ⟨a1, a2, a3, a4, a5, a6, a7, a8, a9, a10, a11, a12, a13, a14, a15, a16, a17, a18⟩ := a
    have hn : nu (M 65) (M 64 1).toNat ≤ 999 := by omega
    refine ⟨a1, ?_⟩
    rcases a3 with e | e <;> rw [e] <;> omega
  · rw [if_neg z, if_neg z]
    exact b k k0 (by omega)
theorem dp_addAll {M : am_M} {Q : Int → am_M → Prop} {X : am_X} {c : Int} (hC : Cp c M) (hc : c + 1 ≤ 1000)
    (x0 : ¬ rw8 M → X 0 M) (x1 : rw8 M → ¬ (M 1 7 + nP M ≤ 60 ∧ frP M (tP M) (nP M)) → ∀ M', Frd M M' → X 1 M')
    (hq : rw8 M → M 1 7 + nP M ≤ 60 → frP M (tP M) (nP M) → ∀ M', MutT c M M' (IN M (tP M) (vP M) (nP M).toNat) → Q (M 1 7 + nP M) M') : wp_X5_addAll M Q X := by
  obtain ⟨hd, hs, hN, r1, r2, ht⟩ := hC
  have hd' := hd
  obtain ⟨⟨n0, n1⟩, -⟩ := hd'
  refine dp_isRow ht (fun h8 => ⟨by unfold am_rg; omega, fun _ => ?_, fun e => absurd e (by omega)⟩) (fun h8 => ⟨by unfold am_rg; omega, fun e => absurd rfl e, fun _ => x0 (by unfold rw8; omega)⟩)
  obtain ⟨b1, b2⟩ := tP_b ht h8
  refine dp_readRow ht h8 (fun M1 f1 g1 e4 rows => ?_)
  have e4' : M1 64 4 = nP M := e4
  have rows' : ∀ k, 0 ≤ k → k < nP M → M1 66 k = tP M k ∧ M1 67 k = vP M k := fun k k0 k1 => rows k k0 (by unfold nP at k1; omega)
  have F : Fr8 M M1 := fun k k1 k2 => f1 k (by omega) (by omega) (by omega)
  have e1 : M1 1 = M 1 := fr_1 F
  rw [e1, e4']
  refine ⟨by unfold am_rg; omega, fun e => x1 h8 (fun z => by omega) M1 ⟨f1, g1⟩, fun e => ?_⟩
  refine dp_parsedTimesAreFree (ts := tP M) (m := nP M) hd F e4' (by omega) (fun k k0 k1 => ⟨(rows' k k0 k1).1, by have := (b2 k k0 k1).1; unfold am_rg; omega⟩) (fun fr => ⟨by unfold am_rg; omega, fun _ => ?_, fun e => absurd e (by omega)⟩) (fun fr => ⟨by unfold am_rg; omega, fun e => absurd rfl e, fun _ => x1 h8 (fun z => fr z.2) M1 ⟨f1, g1⟩⟩)
  have ins := IN_s (vs := vP M) (OKd_c hd (by omega : c ≤ c + 1) hc) b2 (by omega) fr
  have e14 : M1 14 = M 14 := f1 14 (by omega) (by omega) (by omega)
  refine dp_remember (by rw [e14]; exact r1) (by rw [e14]; exact r2) (fun M2 f2 e15 hp2 => ?_)
  have F2 : Fr8 M M2 := Fr8_t F (Fh_f f2)
  have loop : ∀ (r k : Nat) (M3 : am_M), (k : Int) + r = nP M → (∀ j, (j = 0 ∨ 4 < j) → M3 j = M2 j) → EQn M3 (IN M (tP M) (vP M) k) → wl_X5_addAll_77 Q X (r + 1) (k : Int) M3 := by
    intro r
    induction r with
    | zero =>
      intro k M3 hk f en
      have e64 : M3 64 4 = nP M := by rw [f 64 (by omega), f2 64 (by omega)]; exact e4'
      refine ⟨by unfold am_rg; omega, by unfold am_rg; omega, fun _ => ?_, fun e => absurd e (by omega)⟩
      rw [show k = (nP M).toNat by omega] at en
      have en2 : EQn (am_up M3 64 1 0) (IN M (tP M) (vP M) (nP M).toNat) := by
        unfold EQn at en ⊢
        simp (disch := omega) only [am_up_r]
        exact en
      have okd := (ins (nP M).toNat (by omega)).1
      refine dp_pointsChanged (OKd_n okd en2) (fun M' g s d z => ?_)
      have e17 : M' 1 7 = M 1 7 + nP M := by
        rw [g 1 (by omega) (by omega), en2.1, IN_17]; omega
      rw [e17]
      refine hq h8 (by omega) fr M' ⟨fun j j0 j1 j2 j3 j4 => ?_, ?_, HPc_t (fun j hj => ?_) (fun j j0 j1 => ?_) hp2, EQn_5 g en2, d, s, Or.inl z⟩
      · rw [g j (by omega) (by omega), am_up_r (by omega), f j (by omega), f2 j (by omega)]; exact f1 j j1 j2 j3
      · rw [g 64 (by omega) (by omega), am_up_s]
      · exact (f1 j (by omega) (by omega) (by omega)).symm
      · rw [g j (by omega) (by omega), am_up_r (by omega)]; exact f j (by omega)
    | succ r ih =>
      intro k M3 hk f en
      have e64 : M3 64 4 = nP M := by rw [f 64 (by omega), f2 64 (by omega)]; exact e4'
      have e66 : M3 66 (k : Int) = tP M (k : Int) := by rw [f 66 (by omega), f2 66 (by omega)]; exact (rows' k (by omega) (by omega)).1
      have e67 : M3 67 (k : Int) = vP M (k : Int) := by rw [f 67 (by omega), f2 67 (by omega)]; exact (rows' k (by omega) (by omega)).2
      have rk := b2 (k : Int) (by omega) (by omega)
      refine ⟨by unfold am_rg; omega, by unfold am_rg; omega, fun e => absurd e (by omega), fun _ => ⟨by omega, by omega, ?_⟩⟩
      rw [e66, e67]
      refine dp_insertD (ins k (by omega)).1 en (by unfold am_rg; omega) (by rw [IN_17]; omega) (fun M4 en4 f4 => ?_)
      exact ih (k + 1) M4 (by omega) (fun j hj => (f4 j hj).trans (f j hj)) en4
  exact ⟨_, loop (nP M).toNat 0 M2 (by omega) (fun _ _ => rfl) (EQn_fr F2)⟩
theorem dp_undo {M : am_M} {Q : Int → am_M → Prop} {X : am_X} {c : Int} (hC : Cp c M) (hd1 : 1 ≤ M 14 2 → OKd c (dia M (rwo M (M 14 2 - 1))))
    (x1 : M 14 2 = 0 → X 1 M) (hq : 1 ≤ M 14 2 → ∀ M', (∀ k, (k = 0 ∨ 14 < k) → M' k = M k) → M' 14 1 = M 14 1 → M' 14 2 = M 14 2 - 1 → EQn M' (dia M (rwo M (M 14 2 - 1))) → OKd c M' → OKs M' → NV M' M' → Q (M 14 2 - 1) M') : wp_X5_undo M Q X := by
  obtain ⟨hd, hs, hN, r1, r2, ht⟩ := hC
  refine ⟨by unfold am_rg; omega, fun e => ?_, fun e => x1 (by omega)⟩
  have hd2 := hd1 (by omega)
  refine dp_restore r1 (by omega) (fun M1 f1 e1 e2 eq => ?_)
  have d8 := hd2.2.2.2.2.2.2.1
  have d7 := hd2.1
  refine dp_pointsChanged (OKd_eq hd2 (EQD_s eq)) (fun M' g s d z => ?_)
  have e14 : M' 14 = M1 14 := g 14 (by omega) (by omega)
  rw [e14, e2]
  exact hq (by omega) M' (fun k hk => (g k (by omega) (by omega)).trans (f1 k (by omega))) (by rw [e14]; exact e1) (by rw [e14]; exact e2) (EQn_5 g (EQn_d eq d7.2 d8.2)) d s (Or.inl z)
