/-! thin -/
noncomputable def thD (D : am_M) (way : Int) : am_M := fun k j => if k = 4 then pi1 (CH D way (D 6 0) j) else if k = 1 ∧ j = 9 then D 1 9 + 1 else D k j
theorem thD_4 {D : am_M} {w j : Int} : thD D w 4 j = pi1 (CH D w (D 6 0) j) := by unfold thD; rw [if_pos rfl]
theorem thD_9 {D : am_M} {w : Int} : thD D w 1 9 = D 1 9 + 1 := by unfold thD; rw [if_neg (by omega), if_pos ⟨rfl, rfl⟩]
theorem thD_1 {D : am_M} {w j : Int} (h : j ≠ 9) : thD D w 1 j = D 1 j := by unfold thD; rw [if_neg (by omega), if_neg (fun z => h z.2)]
theorem thD_k {D : am_M} {w : Int} {k : Nat} (h : 1 < k) (h4 : k ≠ 4) : thD D w k = D k := by funext j; unfold thD; rw [if_neg h4, if_neg (fun z => by omega)]
theorem OKd_th {c w : Int} {D : am_M} (h : OKd c D) (hc : c + 1 ≤ 1000) : OKd (c + 1) (thD D w) := by
  obtain ⟨h1, h2, h3, h4, h5, h6, h7, h8, h9, h10, h11⟩ := h
  unfold OKd
  rw [thD_9, thD_1 (by omega), thD_1 (by omega), thD_1 (by omega), thD_k (k := 2) (by omega) (by omega), thD_k (k := 3) (by omega) (by omega), thD_k (k := 6) (by omega) (by omega), thD_k (k := 7) (by omega) (by omega), thD_k (k := 8) (by omega) (by omega)]
  refine ⟨h1, fun i i0 i1 => ?_, h3, h4, h5, h6, h7, h8, by omega, by omega, by omega⟩
  have a := h2 i i0 i1
  rw [thD_4]
  exact ⟨a.1, a.2.1, pi1_b _⟩
theorem dp_thin {w : Int} {M : am_M} {Q : Int → am_M → Prop} {X : am_X} {c : Int} (hC : Cp c M) (hc : c + 1 ≤ 1000) (hw : am_rg w)
    (x0 : ¬ (0 ≤ w ∧ w ≤ 2) → X 0 M) (hq : 0 ≤ w ∧ w ≤ 2 → ∀ M', Mut c M M' (thD M w) → Q (chn M w (M 6 0)) M') : wp_X5_thin w M Q X := by
  obtain ⟨hd, hs, hN, r1, r2, ht⟩ := hC
  have hd' := hd
  obtain ⟨⟨n0, n1⟩, -⟩ := hd'
  refine dp_refuseOutside hw (by unfold am_rg; omega) (fun h => ?_) x0
  refine dp_remember r1 r2 (fun M1 f1 e15 hp1 => ?_)
  have F := Fh_f f1
  refine dp_choose hd hs F (NV_m hN (f1 10 (by omega)) (f1 13 (by omega))) h (fun M4 f4 v4 g4 => ?_)
  have F4 := Fc_f F f4
  have loop : ∀ (r k : Nat) (M5 : am_M), (k : Int) + r = M 1 7 → (∀ j, j ≠ 4 → M5 j = M4 j) → (∀ i, 0 ≤ i → i < (k : Int) → M5 4 i = M4 11 i) → wl_X5_thin_26 Q X (r + 1) (chn M w (M 6 0)) (k : Int) M5 := by
    intro r
    induction r with
    | zero =>
      intro k M5 hk f g
      have e1 : M5 1 = M 1 := (f 1 (by omega)).trans (fr_1 F4)
      rw [wl_X5_thin_26, e1]
      refine ⟨by unfold am_rg; omega, by unfold am_rg; omega, fun _ => ?_, fun e => absurd e (by omega)⟩
      have sm : Sm M (am_up M5 1 9 (M 1 9 + 1)) := by
        refine ⟨?_, ?_, ?_, ?_, ?_⟩
        · rw [am_up_n (by omega), e1]
        · rw [am_up_r (by omega), f 2 (by omega)]; exact fr_2 F4
        · rw [am_up_r (by omega), f 3 (by omega)]; exact fr_3 F4
        · rw [am_up_r (by omega), f 5 (by omega)]; exact fr_5 F4
        · rw [am_up_r (by omega), f 6 (by omega)]; exact fr_6 F4
      have en : EQn (am_up M5 1 9 (M 1 9 + 1)) (thD M w) := by
        refine ⟨?_, ?_, ?_, ?_, fun i i0 i1 => ?_, fun i i0 i1 => ?_, fun i i0 i1 => ?_⟩
        · rw [thD_1 (by omega), am_up_n (by omega), e1]
        · rw [thD_1 (by omega), am_up_n (by omega), e1]
        · rw [thD_9, am_up_s]
        · rw [thD_1 (by omega), am_up_n (by omega), e1]
        · rw [thD_1 (by omega)] at i1
          rw [thD_k (by omega) (by omega), thD_k (by omega) (by omega), thD_4, sm.2.1, sm.2.2.1, am_up_r (by omega), g i i0 (by omega), g4 i i0 i1]
          exact ⟨rfl, rfl, rfl⟩
        · rw [thD_k (by omega) (by omega), sm.2.2.2.2]
        · rw [thD_k (by omega) (by omega), thD_k (by omega) (by omega), am_up_r (by omega), am_up_r (by omega), f 7 (by omega), f 8 (by omega), fr_7 F4, fr_8 F4]
          exact ⟨rfl, rfl⟩
      refine hq h _ ⟨fun j j1 j2 => ?_, HPc_t (fun _ _ => rfl) (fun j j1 j2 => ?_) hp1, en, OKd_n (OKd_th hd hc) en, OKs_sm hs sm, NV_sm (NV_m v4 ?_ ?_) sm⟩
      · rw [am_up_r (by omega), f j (by omega), f4 j (by omega)]; exact f1 j (by omega)
      · rw [am_up_r (by omega), f j (by omega)]; exact f4 j (by omega)
      · rw [am_up_r (by omega)]; exact f 10 (by omega)
      · rw [am_up_r (by omega)]; exact f 13 (by omega)
    | succ r ih =>
      intro k M5 hk f g
      have e1 : M5 1 = M 1 := (f 1 (by omega)).trans (fr_1 F4)
      rw [wl_X5_thin_26, e1]
      refine ⟨by unfold am_rg; omega, by unfold am_rg; omega, fun e => absurd e (by omega), fun _ => ⟨by omega, by omega, ?_⟩⟩
      refine ih (k + 1) _ (by omega) (fun j hj => by rw [am_up_r hj]; exact f j hj) (fun i i0 i1 => ?_)
      by_cases z : i = (k : Int)
      · rw [z, am_up_s, f 11 (by omega)]
      · rw [am_up_n z]; exact g i i0 (by omega)
  exact ⟨_, loop (M 1 7).toNat 0 M4 (by omega) (fun _ _ => rfl) (fun i i0 i1 => by omega)⟩
/-! mend -/
noncomputable def mdD (D : am_M) : am_M := fun k j => if k = 4 ∧ (0 ≤ j ∧ j < D 1 7) ∧ pi1 (bk D j) = 1 then 1 else D k j
noncomputable def mI (D : am_M) : Nat → am_M
  | 0 => D
  | m + 1 => mdD (mI D m)
theorem pi1_1 {P : Prop} : pi1 P = 1 ↔ P := by
  by_cases h : P
  · rw [pi1_t h]; exact ⟨fun _ => h, fun _ => rfl⟩
  · rw [pi1_f h]; exact ⟨fun z => absurd z (by omega), fun z => absurd z h⟩
theorem mdD_k {D : am_M} {k : Nat} (h : k ≠ 4) : mdD D k = D k := by funext j; unfold mdD; rw [if_neg (fun z => h z.1)]
theorem mdD_b {D : am_M} {j : Int} (hj : 0 ≤ j ∧ j < D 1 7) (h : bk D j) : mdD D 4 j = 1 := by unfold mdD; rw [if_pos ⟨rfl, hj, pi1_t h⟩]
theorem mdD_n {D : am_M} {j : Int} (h : ¬ bk D j) : mdD D 4 j = D 4 j := by unfold mdD; rw [if_neg (fun z => h (pi1_1.mp z.2.2))]
theorem mdD_id {D : am_M} (h : ∀ p, 0 ≤ p → p < D 1 7 → ¬ bk D p) : mdD D = D := by
  funext k j
  unfold mdD
  rw [if_neg (fun z => h j z.2.1.1 z.2.1.2 (pi1_1.mp z.2.2))]
theorem sm_md {D : am_M} : Sm D (mdD D) := ⟨by rw [mdD_k (by omega)], mdD_k (by omega), mdD_k (by omega), mdD_k (by omega), mdD_k (by omega)⟩
theorem OKd_md {c : Int} {D : am_M} (h : OKd c D) : OKd c (mdD D) := by
  obtain ⟨h1, h2, h3, h⟩ := h
  unfold OKd
  rw [mdD_k (k := 1) (by omega), mdD_k (k := 2) (by omega), mdD_k (k := 3) (by omega), mdD_k (k := 6) (by omega), mdD_k (k := 7) (by omega), mdD_k (k := 8) (by omega)]
  refine ⟨h1, fun i i0 i1 => ?_, h3, h⟩
  have a := h2 i i0 i1
  refine ⟨a.1, a.2.1, ?_⟩
  by_cases z : bk D i
  · rw [mdD_b ⟨i0, i1⟩ z]; exact Or.inr rfl
  · rw [mdD_n z]; exact a.2.2
theorem mI_k {D : am_M} {k : Nat} (h : k ≠ 4) : ∀ m, mI D m k = D k
  | 0 => rfl
  | m + 1 => (mdD_k h).trans (mI_k h m)
theorem mI_sm {D : am_M} (m : Nat) : Sm D (mI D m) := ⟨by rw [mI_k (by omega)], mI_k (by omega) m, mI_k (by omega) m, mI_k (by omega) m, mI_k (by omega) m⟩
theorem mI_d {c : Int} {D : am_M} (h : OKd c D) : ∀ m, OKd c (mI D m)
  | 0 => h
  | m + 1 => OKd_md (mI_d h m)
theorem kc_md {c : Int} {D : am_M} (hd : OKd c D) : ∀ i : Nat, (i : Int) ≤ D 1 7 → kc (mdD D) i = kc D i + sm (fun p => pi1 (bk D p)) i
  | 0, _ => rfl
  | i + 1, h => by
    have ih := kc_md hd i (by omega)
    have hk := OKd_k hd (i := (i : Int)) (by omega) (by omega)
    have e1 : kc (mdD D) (i + 1) = kc (mdD D) i + mdD D 4 (i : Int) := rfl
    have e2 : kc D (i + 1) = kc D i + D 4 (i : Int) := rfl
    rw [e1, e2, sm_s, ih]
    by_cases z : bk D (i : Int)
    · rw [mdD_b ⟨by omega, by omega⟩ z, pi1_t z]
      have := z.1
      omega
    · rw [mdD_n z, pi1_f z]
      omega
theorem sm_pos {f : Int → Int} : ∀ n : Nat, (∀ i, 0 ≤ i → i < (n : Int) → 0 ≤ f i ∧ f i ≤ 1) → (sm f n = 0 ↔ ∀ i, 0 ≤ i → i < (n : Int) → f i = 0)
  | 0, _ => ⟨fun _ i i0 i1 => by omega, fun _ => rfl⟩
  | n + 1, h => by
    have ih := sm_pos n (fun i i0 i1 => h i i0 (by omega))
    have b := sm_b n (fun i i0 i1 => h i i0 (by omega))
    have hn := h n (by omega) (by omega)
    rw [sm_s]
    constructor
    · intro z i i0 i1
      by_cases e : i = (n : Int)
      · rw [e]; omega
      · exact ih.mp (by omega) i i0 (by omega)
    · intro z
      rw [ih.mpr (fun i i0 i1 => z i i0 (by omega)), z n (by omega) (by omega)]
      omega
theorem sb_0 {D : am_M} (n : Nat) : sm (fun p => pi1 (bk D p)) n = 0 ↔ ∀ p, 0 ≤ p → p < (n : Int) → ¬ bk D p := by
  rw [sm_pos n (fun i i0 i1 => by have := pi1_b (bk D i); omega)]
  constructor
  · intro h p p0 p1 z
    have := h p p0 p1
    simp only [pi1_t z] at this
    omega
  · intro h p p0 p1
    simp only [pi1_f (h p p0 p1)]
theorem dp_keepBroken {D M : am_M} {Q : Int → am_M → Prop} {c : Int} (hd : OKd c D) (hs : OKs D) (hf : Fr8 D M) (hq : ∀ M', (∀ k, k ≠ 4 → k ≠ 9 → k ≠ 68 → M' k = M k) → Fr8 (mdD D) M' → Q (sm (fun p => pi1 (bk D p)) (D 1 7).toNat) M') : wp_X5_keepBroken M Q := by
  have hd' := hd
  obtain ⟨⟨n0, n1⟩, -⟩ := hd'
  have put : ∀ (M0 : am_M), (∀ k, k ≠ 9 → k ≠ 68 → M0 k = M k) → (∀ i, 0 ≤ i → i < D 1 7 → M0 68 i = pi1 (bk D i)) → ∀ (r k : Nat) (M1 : am_M), (k : Int) + r = D 1 7 → (∀ j, j ≠ 4 → M1 j = M0 j) → (∀ i, M1 4 i = if i < (k : Int) then mdD D 4 i else D 4 i) → wl_X5_keepBroken_45 Q (r + 1) (sm (fun p => pi1 (bk D p)) k) (k : Int) M1 := by
    intro M0 f0 g0 r
    induction r with
    | zero =>
      intro k M1 hk f g
      have e1 : M1 1 = D 1 := (f 1 (by omega)).trans ((f0 1 (by omega) (by omega)).trans (fr_1 hf))
      rw [wl_X5_keepBroken_45, e1]
      refine ⟨by unfold am_rg; omega, by unfold am_rg; omega, fun _ => ?_, fun e => absurd e (by omega)⟩
      rw [show k = (D 1 7).toNat by omega]
      refine hq M1 (fun j j4 j9 j68 => (f j j4).trans (f0 j j9 j68)) (fun j j1 j2 => ?_)
      by_cases z : j = 4
      · subst z
        funext i
        rw [g i]
        by_cases y : i < (k : Int)
        · rw [if_pos y]
        · rw [if_neg y]
          unfold mdD
          rw [if_neg (by omega)]
      · rw [mdD_k z]
        exact (f j z).trans ((f0 j (by omega) (by omega)).trans (hf j j1 j2))
    | succ r ih =>
      intro k M1 hk f g
      have e1 : M1 1 = D 1 := (f 1 (by omega)).trans ((f0 1 (by omega) (by omega)).trans (fr_1 hf))
      have e68 : M1 68 (k : Int) = pi1 (bk D (k : Int)) := by rw [f 68 (by omega)]; exact g0 _ (by omega) (by omega)
      have hp := pi1_b (bk D (k : Int))
      have h := ih (k + 1)
      rw [sm_s] at h
      rw [wl_X5_keepBroken_45, e1, e68]
      refine ⟨by unfold am_rg; omega, by unfold am_rg; omega, fun e => absurd e (by omega), fun _ => ⟨by omega, by unfold am_rg; omega, fun e => ?_, fun e => ⟨by omega, ?_⟩⟩⟩
      · have h := h M1 (by omega) f (fun i => ?_)
        · simp only [show pi1 (bk D (k : Int)) = 0 by omega] at h
          rw [Int.add_zero] at h
          exact h
        · rw [g i]
          by_cases y : i < (k : Int)
          · rw [if_pos y, if_pos (by omega)]
          · rw [if_neg y]
            by_cases x : i < ((k + 1 : Nat) : Int)
            · rw [if_pos x, show i = (k : Int) by omega, mdD_n (fun z => e (pi1_t z))]
            · rw [if_neg x]
      · have eb : bk D (k : Int) := pi1_1.mp (by omega)
        have h := h (am_up M1 4 (k : Int) 1) (by omega) (fun j hj => by rw [am_up_r hj]; exact f j hj) (fun i => ?_)
        · simp only [show pi1 (bk D (k : Int)) = 1 by omega] at h
          exact h
        · by_cases x : i = (k : Int)
          · rw [x, am_up_s, if_pos (by omega), mdD_b ⟨by omega, by omega⟩ eb]
          · rw [am_up_n x, g i]
            by_cases y : i < (k : Int)
            · rw [if_pos y, if_pos (by omega)]
            · rw [if_neg y, if_neg (by omega)]
  have mark : ∀ (r k : Nat) (M1 : am_M), (k : Int) + r = D 1 7 → (∀ j, j ≠ 9 → j ≠ 68 → M1 j = M j) → (∀ i, 0 ≤ i → i < (k : Int) → M1 68 i = pi1 (bk D i)) → wl_X5_keepBroken_2 Q (r + 1) (k : Int) M1 := by
    intro r
    induction r with
    | zero =>
      intro k M1 hk f g
      have e1 : M1 1 = D 1 := (f 1 (by omega) (by omega)).trans (fr_1 hf)
      rw [wl_X5_keepBroken_2, e1]
      refine ⟨by unfold am_rg; omega, by unfold am_rg; omega, fun _ => ⟨_, put M1 f (fun i i0 i1 => g i i0 (by omega)) (D 1 7).toNat 0 M1 (by omega) (fun _ _ => rfl) (fun i => ?_)⟩, fun e => absurd e (by omega)⟩
      rw [f 4 (by omega) (by omega), fr_4 hf]
      by_cases y : i < ((0 : Nat) : Int)
      · rw [if_pos y]
        unfold mdD
        rw [if_neg (by omega)]
      · rw [if_neg y]
    | succ r ih =>
      intro k M1 hk f g
      have e1 : M1 1 = D 1 := (f 1 (by omega) (by omega)).trans (fr_1 hf)
      have hf1 : Fr8 D M1 := fun j j1 j2 => (f j (by omega) (by omega)).trans (hf j j1 j2)
      rw [wl_X5_keepBroken_2, e1]
      refine ⟨by unfold am_rg; omega, by unfold am_rg; omega, fun e => absurd e (by omega), fun _ => ?_⟩
      refine dp_broken01 hd hs hf1 ⟨by omega, by omega⟩ (fun M2 f2 => ?_)
      have put1 : ∀ x, x = pi1 (bk D (k : Int)) → wl_X5_keepBroken_2 Q (r + 1) ((k : Int) + 1) (am_up M2 68 (k : Int) x) := by
        intro x hx
        refine ih (k + 1) _ (by omega) (fun j j9 j68 => by rw [am_up_r j68, f2 j j9]; exact f j j9 j68) (fun i i0 i1 => ?_)
        by_cases z : i = (k : Int)
        · rw [z, am_up_s]; exact hx
        · rw [am_up_n z, f2 68 (by omega)]; exact g i i0 (by omega)
      rcases pi1_b (bk D (k : Int)) with z | z
      · rw [z]; exact ⟨by unfold am_rg; omega, fun _ => ⟨by omega, put1 0 z.symm⟩, fun e => absurd rfl e⟩
      · rw [z]; exact ⟨by unfold am_rg; omega, fun e => absurd e (by omega), fun _ => ⟨by omega, put1 1 z.symm⟩⟩
  exact ⟨_, mark (D 1 7).toNat 0 M (by omega) (fun _ _ _ => rfl) (fun i i0 i1 => by omega)⟩
theorem dp_mend {M : am_M} {Q : Int → am_M → Prop} {c : Int} (hC : Cp c M) (hc : c + 1 ≤ 1000)
    (hq : ∀ (m : Nat) M', (∀ p, 0 ≤ p → p < M 1 7 → ¬ bk (mI M m) p) → (∀ j, j < m → ∃ p, 0 ≤ p ∧ p < M 1 7 ∧ bk (mI M j) p) → Mut c M M' (mI M m) → Q (kc (mI M m) (M 1 7).toNat - kc M (M 1 7).toNat) M') : wp_X5_mend M Q := by
  obtain ⟨hd, hs, hN, r1, r2, ht⟩ := hC
  have hd' := hd
  obtain ⟨⟨n0, n1⟩, -⟩ := hd'
  refine dp_remember r1 r2 (fun M1 f1 e15 hp1 => ?_)
  have F := Fh_f f1
  refine dp_keptPoints hd F ?_
  have fin : ∀ (m : Nat) (M2 : am_M), (∀ k, k ≠ 4 → k ≠ 9 → k ≠ 68 → M2 k = M1 k) → Fr8 (mI M m) M2 → (∀ p, 0 ≤ p → p < M 1 7 → ¬ bk (mI M m) p) → (∀ j, j < m → ∃ p, 0 ≤ p ∧ p < M 1 7 ∧ bk (mI M j) p) → wj_X5_mend_43 Q (kc M (M 1 7).toNat) M2 := by
    intro m M2 f2 F2 no ex
    have dm := mI_d hd m
    refine dp_keptPoints dm F2 ?_
    rw [(mI_sm m).1]
    have sm : Sm M M2 := Sm_t (mI_sm m) (Sm_fr F2)
    refine hq m M2 no ex ⟨fun k k1 k2 => (f2 k (by omega) (by omega) k2).trans (f1 k (by omega)), HPc_t (fun _ _ => rfl) (fun k k1 k2 => f2 k (by omega) (by omega) (by omega)) hp1, EQn_fr F2, OKd_c (OKd_fr dm F2) (by omega) hc, OKs_sm hs sm, NV_sm (NV_m hN ?_ ?_) sm⟩
    · rw [f2 10 (by omega) (by omega) (by omega)]; exact f1 10 (by omega)
    · rw [f2 13 (by omega) (by omega) (by omega)]; exact f1 13 (by omega)
  have loop : ∀ (r m : Nat) (M2 : am_M), m + r = 60 → (∀ k, k ≠ 4 → k ≠ 9 → k ≠ 68 → M2 k = M1 k) → Fr8 (mI M m) M2 → (m : Int) ≤ kc (mI M m) (M 1 7).toNat → (∀ j, j < m → ∃ p, 0 ≤ p ∧ p < M 1 7 ∧ bk (mI M j) p) → wl_X5_mend_21 Q (r + 1) (kc M (M 1 7).toNat) (m : Int) M2 := by
    intro r
    induction r with
    | zero =>
      intro m M2 hm f2 F2 hk ex
      refine ⟨by unfold am_rg; omega, fun _ => fin m M2 f2 F2 ?_ ex, fun e => absurd (by omega) e⟩
      have dm := mI_d hd m
      have e := kc_md dm (M 1 7).toNat (by rw [(mI_sm m).1]; omega)
      have b1 := kc_b (OKd_md dm) (M 1 7).toNat (by rw [mdD_k (by omega), (mI_sm m).1]; omega)
      have b2 := sm_b (f := fun p => pi1 (bk (mI M m) p)) (M 1 7).toNat (fun i i0 i1 => by have := pi1_b (bk (mI M m) i); omega)
      have := (sb_0 (D := mI M m) (M 1 7).toNat).mp (by omega)
      exact fun p p0 p1 => this p p0 (by omega)
    | succ r ih =>
      intro m M2 hm f2 F2 hk ex
      have dm := mI_d hd m
      refine ⟨by unfold am_rg; omega, fun e => absurd e (by omega), fun _ => ?_⟩
      refine dp_keepBroken dm (OKs_sm hs (mI_sm m)) F2 (fun M3 f3 F3 => ?_)
      rw [(mI_sm m).1]
      have b2 := sm_b (f := fun p => pi1 (bk (mI M m) p)) (M 1 7).toNat (fun i i0 i1 => by have := pi1_b (bk (mI M m) i); omega)
      have f3' : ∀ k, k ≠ 4 → k ≠ 9 → k ≠ 68 → M3 k = M1 k := fun k a b d => (f3 k a b d).trans (f2 k a b d)
      have s0 := sb_0 (D := mI M m) (M 1 7).toNat
      refine ⟨by unfold am_rg; omega, fun e => ?_, fun e => ?_⟩
      · have e := kc_md dm (M 1 7).toNat (by rw [(mI_sm m).1]; omega)
        have ex1 : ∃ p, 0 ≤ p ∧ p < M 1 7 ∧ bk (mI M m) p := by
          refine Classical.byContradiction (fun z => ?_)
          have := s0.mpr (fun p p0 p1 y => z ⟨p, p0, by omega, y⟩)
          omega
        have em : mI M (m + 1) = mdD (mI M m) := rfl
        refine ih (m + 1) M3 (by omega) f3' F3 (by rw [em]; omega) (fun j hj => ?_)
        by_cases z : j = m
        · rw [z]; exact ex1
        · exact ex j (by omega)
      · have no := s0.mp (by omega)
        have no' : ∀ p, 0 ≤ p → p < (mI M m) 1 7 → ¬ bk (mI M m) p := fun p p0 p1 => no p p0 (by rw [(mI_sm m).1] at p1; omega)
        rw [mdD_id no'] at F3
        exact fin m M3 f3' F3 (fun p p0 p1 => no p p0 (by omega)) ex
  exact ⟨_, loop 60 0 M1 (by omega) (fun _ _ _ _ => rfl) F (by have := kc_b hd (M 1 7).toNat (by omega); show (0 : Int) ≤ kc M (M 1 7).toNat; omega) (fun j hj => by omega)⟩
