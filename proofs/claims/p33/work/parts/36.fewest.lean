theorem dp_fewestBehind {i o : Int} {D M : am_M} {Q : Int → am_M → Prop} {c : Int} (hd : OKd c D) (hs : OKs D) (hf : Fr8 D M) (hn : ND D M) (ho : 0 ≤ o ∧ o ≤ 600) (hi : 0 ≤ i ∧ i < D 1 7) (hb : ∀ k, i < k → k < D 1 7 → 1 ≤ M 12 k ∧ M 12 k ≤ 60)
    (hq : ∀ v, (v = 0 ∧ ∀ k, ¬ jo D o i k) ∨ (∃ k, jo D o i k ∧ M 12 k = v ∧ ∀ k', jo D o i k' → v ≤ M 12 k') → Q v M) : wp_X4_fewestBehind i o M Q := by
  have hd' := hd
  obtain ⟨⟨n0, n1⟩, -⟩ := hd'
  have e1 : M 1 7 = D 1 7 := congrFun (fr_1 hf) 7
  have loop : ∀ (r : Nat) (j v : Int), i < j → j + r = D 1 7 → ((v = 0 ∧ ∀ k, k < j → ¬ jo D o i k) ∨ (∃ k, k < j ∧ jo D o i k ∧ M 12 k = v ∧ ∀ k', k' < j → jo D o i k' → v ≤ M 12 k')) → wl_X4_fewestBehind_37 Q (r + 1) o (D 5 i) (i * 60) v j M := by
    intro r
    induction r with
    | zero =>
      intro j v hj hr inv
      refine ⟨by unfold am_rg; omega, by unfold am_rg; omega, fun _ => hq v ?_, fun q => absurd q (by omega)⟩
      rcases inv with ⟨h1, h2⟩ | ⟨k, h1, h2, h3, h4⟩
      · exact Or.inl ⟨h1, fun k hk => h2 k (by have := hk.2.1; omega) hk⟩
      · exact Or.inr ⟨k, h2, h3, fun k' hk => h4 k' (by have := hk.2.1; omega) hk⟩
    | succ r ih =>
      intro j v hj hr inv
      have e5 : M 5 j = D 5 j := congrFun (fr_5 hf) j
      have sj := OKs_b hs (i := j) (by omega) (by omega)
      have si := OKs_b hs hi.1 hi.2
      have hv : 0 ≤ v ∧ v ≤ 60 := by
        rcases inv with ⟨h1, h2⟩ | ⟨k, h1, h2, h3, h4⟩
        · omega
        · have := hb k h2.1 h2.2.1
          omega
      have hbj := hb j hj (by omega)
      refine ⟨by unfold am_rg; omega, by unfold am_rg; omega, fun q => absurd q (by omega), fun _ => ⟨by omega, by unfold am_rg; omega, by unfold am_rg; omega, fun e => hq v ?_, fun e => ⟨by omega, ?_⟩⟩⟩
      · have no : ∀ k, j ≤ k → ¬ jo D o i k := by
          intro k hk h
          have h1 := st_m hs (i := i) (j := j) hi.1 (by omega) (by omega)
          have h2 := st_m hs (i := j) (j := k) (by omega) hk h.2.1
          have := h.2.2.1
          omega
        rcases inv with ⟨h1, h2⟩ | ⟨k, h1, h2, h3, h4⟩
        · refine Or.inl ⟨h1, fun k hk => ?_⟩
          by_cases z : k < j
          · exact h2 k z hk
          · exact no k (by omega) hk
        · refine Or.inr ⟨k, h2, h3, fun k' hk => ?_⟩
          by_cases z : k' < j
          · exact h4 k' z hk
          · exact absurd hk (no k' (by omega))
      · have e13 : M 13 (i * 60 + j) = nd D i j := hn i j hi.1 hj (by omega) (by omega)
        have hnb := nd_b hd hi.1 hj (by omega)
        have hle := nd_le hd (o := o) hi.1 hj (by omega) ho.1
        rw [e13]
        have take : jo D o i j → (v = 0 ∨ M 12 j < v) → wl_X4_fewestBehind_37 Q (r + 1) o (D 5 i) (i * 60) (M 12 j) (j + 1) M := by
          intro hj2 hlt
          refine ih (j + 1) (M 12 j) (by omega) (by omega) (Or.inr ⟨j, by omega, hj2, rfl, fun k' hk1 hk2 => ?_⟩)
          by_cases z : k' = j
          · rw [z]; exact Int.le_refl _
          · rcases inv with ⟨h1, h2⟩ | ⟨k, h1, h2, h3, h4⟩
            · exact absurd hk2 (h2 k' (by omega))
            · have := h4 k' (by omega) hk2
              have := hb k h2.1 h2.2.1
              omega
        refine ⟨by unfold am_rg; omega, by unfold am_rg; omega, fun e2 => ?_, fun e2 => ⟨by unfold am_rg; omega, fun e3 => ⟨by omega, take ⟨hj, by omega, by omega, hle.mp (by omega)⟩ (Or.inl e3)⟩, fun e3 => ⟨by omega, by unfold am_rg; omega, by unfold am_rg; omega, fun e4 => ?_, fun e4 => ⟨by omega, take ⟨hj, by omega, by omega, hle.mp (by omega)⟩ (Or.inr (by omega))⟩⟩⟩⟩
        · have no : ¬ jo D o i j := fun h => absurd (hle.mpr h.2.2.2) (by omega)
          refine ih (j + 1) v (by omega) (by omega) ?_
          rcases inv with ⟨h1, h2⟩ | ⟨k, h1, h2, h3, h4⟩
          · refine Or.inl ⟨h1, fun k hk h => ?_⟩
            by_cases z : k = j
            · rw [z] at h; exact no h
            · exact h2 k (by omega) h
          · refine Or.inr ⟨k, by omega, h2, h3, fun k' hk h => ?_⟩
            by_cases z : k' = j
            · rw [z] at h; exact absurd h no
            · exact h4 k' (by omega) h
        · refine ih (j + 1) v (by omega) (by omega) ?_
          rcases inv with ⟨h1, h2⟩ | ⟨k, h1, h2, h3, h4⟩
          · exact absurd h1 e3
          · refine Or.inr ⟨k, by omega, h2, h3, fun k' hk h => ?_⟩
            by_cases z : k' = j
            · rw [z]; exact e4
            · exact h4 k' (by omega) h
  unfold wp_X4_fewestBehind
  refine dp_hasPoint hd hf (by unfold am_rg; omega) (fun y => ⟨by unfold am_rg; omega, fun _ => ⟨by omega, ?_⟩, fun e => absurd e (by omega)⟩) (fun y => absurd hi y)
  rw [fr_5 hf]
  exact ⟨_, loop (D 1 7 - (i + 1)).toNat (i + 1) 0 (by omega) (by omega) (Or.inl ⟨rfl, fun k hk h => by have := h.1; omega⟩)⟩
theorem fw_r {D : am_M} {o lo : Int} (h : 0 ≤ lo) : FW D o lo (D 1 7) (fw D o) := fun i i0 i1 => fw_s D o i (by omega) i1
theorem FW_fw {D : am_M} {o lo : Int} {f : Int → Int} (h : 0 ≤ lo) (hf : FW D o lo (D 1 7) f) {i : Int} (h0 : lo ≤ i) (h1 : i < D 1 7) : f i = fw D o i :=
  FW_u (fun i k _ _ h => h.2.1) hf (fw_r h) (D 1 7 - i).toNat i (by omega) h0 h1
theorem dp_findFewest {o : Int} {D M : am_M} {Q : Int → am_M → Prop} {c : Int} (hd : OKd c D) (hs : OKs D) (hf : Fr8 D M) (hn : ND D M) (ho : 0 ≤ o ∧ o ≤ 600)
    (hq : ∀ M', Fx 12 M M' → (∀ i, 0 ≤ i → i < D 1 7 → M' 12 i = fw D o i) → Q (fwS D o) M') : wp_X4_findFewest o M Q := by
  have hd' := hd
  obtain ⟨⟨n0, n1⟩, -⟩ := hd'
  have loop : ∀ (r : Nat) (v : Int) (M1 : am_M), (r : Int) ≤ D 1 7 → Fx 12 M M1 → FW D o (r : Int) (D 1 7) (M1 12) → v + sm (fun i => if i = 0 ∨ D 5 (i - 1) ≠ D 5 i then fw D o i else 0) r = fwS D o → wl_X4_findFewest_12 Q (r + 1) o v ((r : Int) - 1) M1 := by
    intro r
    induction r with
    | zero =>
      intro v M1 hr f1 hw hv
      refine ⟨by unfold am_rg; omega, fun _ => ?_, fun q => absurd q (by omega)⟩
      unfold sm at hv
      rw [show v = fwS D o by omega]
      exact hq M1 f1 (fun i i0 i1 => FW_fw (by omega) hw i0 i1)
    | succ r ih =>
      intro v M1 hr f1 hw hv
      have hf1 := Fx_f hf (by omega) f1
      rw [show ((r + 1 : Nat) : Int) - 1 = (r : Int) by omega]
      have hb : ∀ k, (r : Int) < k → k < D 1 7 → 1 ≤ M1 12 k ∧ M1 12 k ≤ 60 := by
        intro k k0 k1
        have := FW_b (fun i k _ _ h => h.2.1) hw (D 1 7 - k).toNat k (by omega) (by omega) k1
        omega
      refine ⟨by unfold am_rg; omega, fun q => absurd q (by omega), fun _ => ?_⟩
      refine dp_fewestBehind hd hs hf1 (fun i j i0 i1 i2 i3 => by rw [f1 13 (by omega)]; exact hn i j i0 i1 i2 i3) ho ⟨by omega, by omega⟩ hb (fun x hx => ⟨by omega, ?_⟩)
      have F2 : Fx 12 M (am_up M1 12 (r : Int) (x + 1)) := Fx_u f1
      have hf2 := Fx_f hf (by omega) F2
      have hw2 : FW D o (r : Int) (D 1 7) (am_up M1 12 (r : Int) (x + 1) 12) := by
        intro i i0 i1
        have hne : ∀ k, jo D o i k → am_up M1 12 (r : Int) (x + 1) 12 k = M1 12 k := fun k hk => am_up_n (by have := hk.1; omega)
        by_cases e : i = (r : Int)
        · subst e
          rw [am_up_s]
          rcases hx with ⟨h1, h2⟩ | ⟨k, h1, h2, h3⟩
          · exact Or.inl ⟨h2, by omega⟩
          · exact Or.inr ⟨k, h1, by rw [hne k h1]; omega, fun k' hk' => by rw [hne k' hk']; have := h3 k' hk'; omega⟩
        · rw [am_up_n e]
          rcases hw i (by omega) i1 with h | ⟨k, h1, h2, h3⟩
          · exact Or.inl h
          · exact Or.inr ⟨k, h1, by rw [hne k h1]; exact h2, fun k' hk' => by rw [hne k' hk']; exact h3 k' hk'⟩
      have ex : am_up M1 12 (r : Int) (x + 1) 12 (r : Int) = fw D o (r : Int) := FW_fw (by omega) hw2 (Int.le_refl _) (by omega)
      unfold sm at hv
      refine dp_beginsStretch hd hs hf2 ⟨by omega, by omega⟩ (fun y => ⟨by unfold am_rg; omega, fun e => absurd e (by omega), fun _ => ⟨by omega, ?_⟩⟩) (fun y => ⟨by unfold am_rg; omega, fun _ => ?_, fun e => absurd rfl e⟩)
      · rw [ex]
        refine ih _ _ (by omega) F2 hw2 ?_
        unfold bs at y
        rw [if_pos y] at hv
        omega
      · refine ih _ _ (by omega) F2 hw2 ?_
        unfold bs at y
        rw [if_neg y] at hv
        omega
  have h := loop (D 1 7).toNat 0 M (by omega) Fx_r (fun i i0 i1 => by omega) (by unfold fwS; omega)
  have e1 : M 1 7 = D 1 7 := congrFun (fr_1 hf) 7
  rw [show (((D 1 7).toNat : Nat) : Int) - 1 = M 1 7 - 1 by omega] at h
  exact ⟨_, h⟩
theorem sm_60 {f : Int → Int} : ∀ (n : Nat), (∀ i, 0 ≤ i → i < (n : Int) → 0 ≤ f i ∧ f i ≤ 60) → 0 ≤ sm f n ∧ sm f n ≤ 60 * (n : Int)
  | 0, _ => by unfold sm; omega
  | n + 1, h => by
    have := sm_60 n (fun i i0 i1 => h i i0 (by omega))
    have := h n (by omega) (by omega)
    unfold sm
    omega
theorem sm_le {f g : Int → Int} : ∀ (n : Nat), (∀ i, 0 ≤ i → i < (n : Int) → f i ≤ g i) → sm f n ≤ sm g n
  | 0, _ => Int.le_refl _
  | n + 1, h => by
    have := sm_le n (fun i i0 i1 => h i i0 (by omega))
    have := h n (by omega) (by omega)
    unfold sm
    omega
theorem fwS_b {c : Int} {D : am_M} (hd : OKd c D) (o : Int) : 0 ≤ fwS D o ∧ fwS D o ≤ 3600 := by
  obtain ⟨⟨n0, n1⟩, -⟩ := hd
  have h := sm_60 (f := fun i => if i = 0 ∨ D 5 (i - 1) ≠ D 5 i then fw D o i else 0) (D 1 7).toNat (fun i i0 i1 => by
    have := fw_b (D := D) (o := o) i0 (by omega)
    by_cases z : i = 0 ∨ D 5 (i - 1) ≠ D 5 i
    · simp only [if_pos z]; omega
    · simp only [if_neg z]; omega)
  unfold fwS
  omega
theorem jo_mono {c : Int} {D : am_M} (hd : OKd c D) {o o' i k : Int} (h0 : 0 ≤ i) (h : o ≤ o') (hj : jo D o i k) : jo D o' i k := by
  obtain ⟨a, b, d, e⟩ := hj
  have hs := span_b hd h0 a b
  have := Int.mul_le_mul_of_nonneg_right h (show 0 ≤ sp_span D i k by omega)
  unfold jn at e
  refine ⟨a, b, d, ?_⟩
  unfold jn
  omega
theorem jo_adj {c : Int} {D : am_M} (hd : OKd c D) {o i : Int} (h0 : 0 ≤ i) (h1 : i + 1 < D 1 7) (h2 : D 5 i = D 5 (i + 1)) (ho : 0 ≤ o) : jo D o i (i + 1) := by
  have hs := span_b hd h0 (show i < i + 1 by omega) h1
  have := Int.mul_nonneg ho (show 0 ≤ sp_span D i (i + 1) by omega)
  refine ⟨by omega, h1, h2, ?_⟩
  unfold jn
  rw [show (i + 1 - i - 1).toNat = 0 by omega]
  unfold sp_mx
  omega
theorem jo_none {c : Int} {D : am_M} (hd : OKd c D) (hs : OKs D) {o i : Int} (h0 : 0 ≤ i) (ho : 0 ≤ o) (h : ∀ k, ¬ jo D o i k) (o' k : Int) : ¬ jo D o' i k := by
  rintro ⟨a, b, d, -⟩
  have h1 := st_m hs (i := i) (j := i + 1) h0 (by omega) (by omega)
  have h2 := st_m hs (i := i + 1) (j := k) (by omega) (by omega) b
  exact h (i + 1) (jo_adj hd h0 (by omega) (by omega) ho)
theorem fw_mono {c : Int} {D : am_M} (hd : OKd c D) (hs : OKs D) {o o' : Int} (ho : 0 ≤ o) (h : o ≤ o') : ∀ (r : Nat) (i : Int), D 1 7 - i ≤ r → 0 ≤ i → i < D 1 7 → fw D o' i ≤ fw D o i
  | 0, i, hr, _, _ => by omega
  | r + 1, i, hr, i0, i1 => by
    have ih := fw_mono hd hs ho h r
    rcases fw_s D o i i0 i1 with ⟨h1, h2⟩ | ⟨k, h1, h2, h3⟩
    · rcases fw_s D o' i i0 i1 with ⟨g1, g2⟩ | ⟨k', g1, g2, g3⟩
      · omega
      · exact absurd g1 (jo_none hd hs i0 ho h1 o' k')
    · rcases fw_s D o' i i0 i1 with ⟨g1, g2⟩ | ⟨k', g1, g2, g3⟩
      · exact absurd (jo_mono hd i0 h h1) (g1 k)
      · have := g3 k (jo_mono hd i0 h h1)
        have := ih k (by have := h1.1; omega) (by have := h1.1; omega) h1.2.1
        omega
theorem fwS_mono {c : Int} {D : am_M} (hd : OKd c D) (hs : OKs D) {o o' : Int} (ho : 0 ≤ o) (h : o ≤ o') : fwS D o' ≤ fwS D o := by
  refine sm_le _ (fun i i0 i1 => ?_)
  have := fw_mono hd hs ho h (D 1 7 - i).toNat i (by omega) i0 (by omega)
  by_cases z : i = 0 ∨ D 5 (i - 1) ≠ D 5 i
  · simp only [if_pos z]; exact this
  · simp only [if_neg z]; omega
def wd : Nat → Int
  | 0 => 1
  | k + 1 => 2 * wd k
def stp : Nat → Int
  | 0 => 0
  | k + 1 => wd k
theorem wd_b : ∀ k, 1 ≤ wd k
  | 0 => by unfold wd; omega
  | k + 1 => by have := wd_b k; unfold wd; omega
theorem stp_h : ∀ k, Int.tdiv (wd k) 2 = stp k
  | 0 => rfl
  | k + 1 => by unfold wd stp; exact Int.mul_tdiv_cancel_left _ (by omega)
theorem dp_leastOathFor {m : Int} {D M : am_M} {Q : Int → am_M → Prop} {c : Int} (hd : OKd c D) (hs : OKs D) (hf : Fr8 D M) (hv : NV D M) (hm : 0 ≤ m ∧ m ≤ 60)
    (hq : ∀ M' r, Fc M M' → NV D M' → 0 ≤ r → r ≤ 511 → (∀ x, 0 ≤ x → x < r → m < fwS D x) → (r < 511 → fwS D r ≤ m) → Q r M') : wp_X4_leastOathFor m M Q := by
  refine dp_findNeeds hd hs hf hv (fun M0 f0 v0 w0 _ _ => ?_)
  have hf0 := Fc_f hf f0
  have loop : ∀ (k : Nat) (l : Int) (M1 : am_M), Fx 12 M0 M1 → 0 ≤ l → l + wd k ≤ 512 → (∀ x, 0 ≤ x → x < l → m < fwS D x) → (l + wd k = 512 ∨ fwS D (l + wd k - 1) ≤ m) → wl_X4_leastOathFor_10 Q (k + 1) m l (stp k) M1 := by
    intro k
    induction k with
    | zero =>
      intro l M1 f1 l0 l1 h1 h2
      unfold wd at l1 h2
      have e0 : stp 0 = 0 := rfl
      rw [e0]
      refine ⟨by unfold am_rg; omega, fun _ => hq M1 l (Fc_t f0 (Fc_x (by omega) f1)) (Or.inr ⟨by rw [f1 10 (by omega)]; exact v0, fun i j i0 i1 i2 i3 => by rw [f1 13 (by omega)]; exact w0 i j i0 i1 i2 i3⟩) l0 (by omega) h1 (fun z => ?_), fun e => absurd (Int.le_refl _) e⟩
      rcases h2 with h2 | h2
      · omega
      · rw [show l + 1 - 1 = l by omega] at h2; exact h2
    | succ k ih =>
      intro l M1 f1 l0 l1 h1 h2
      have w1 := wd_b k
      unfold wd at l1 h2
      have ew : stp (k + 1) = wd k := rfl
      rw [ew]
      have hS := fwS_b hd (l + wd k - 1)
      refine ⟨by unfold am_rg; omega, fun e => absurd e (by omega), fun _ => ?_⟩
      refine dp_findFewest hd hs (Fx_f hf0 (by omega) f1) (fun i j i0 i1 i2 i3 => by rw [f1 13 (by omega)]; exact w0 i j i0 i1 i2 i3) ⟨by omega, by omega⟩ (fun M2 f2 _ => ?_)
      have F2 := Fx_t f1 f2
      rw [stp_h]
      refine ⟨by unfold am_rg; omega, by unfold am_rg; omega, fun e => ⟨⟨by unfold am_rg; omega, by unfold am_rg; omega, by omega⟩, ih l M2 F2 l0 (by omega) h1 (Or.inr e)⟩, fun e => ⟨⟨by unfold am_rg; omega, by unfold am_rg; omega, by omega⟩, ih (l + wd k) M2 F2 (by omega) (by omega) (fun x x0 x1 => ?_) ?_⟩⟩
      · have := fwS_mono hd hs x0 (show x ≤ l + wd k - 1 by omega)
        omega
      · rw [show l + wd k + wd k = l + 2 * wd k by omega]
        exact h2
  have hS := fwS_b hd 511
  exact ⟨_, loop 9 0 M0 Fx_r (by omega) (by decide) (fun x x0 x1 => by omega) (Or.inl (by decide))⟩
noncomputable def fwo (D : am_M) (s : Int) : Int := if fo D s = -1 then 0 else fw D (D 6 0) (fo D s)
theorem fo_s {D : am_M} {s : Int} (n0 : 0 ≤ D 1 7) : (fo D s = -1 ∧ ∀ i, 0 ≤ i → i < D 1 7 → D 5 i ≠ s) ∨ (0 ≤ fo D s ∧ fo D s < D 1 7 ∧ D 5 (fo D s) = s ∧ ∀ i, 0 ≤ i → i < fo D s → D 5 i ≠ s) := by
  have h := fx_s (D 5) s (D 1 7) (D 1 7).toNat
  rw [show D 1 7 - (((D 1 7).toNat : Nat) : Int) = 0 by omega] at h
  exact h
theorem dp_fewestOf {s : Int} {D M : am_M} {Q : Int → am_M → Prop} {c : Int} (hd : OKd c D) (hs : OKs D) (hf : Fr8 D M) (hv : NV D M) (ha : am_rg s)
    (hq : ∀ M', Fc M M' → NV D M' → Q (fwo D s) M') : wp_X4_fewestOf s M Q := by
  have hd' := hd
  obtain ⟨⟨n0, n1⟩, -, -, o1, -⟩ := hd'
  refine dp_findNeeds hd hs hf hv (fun M0 f0 v0 w0 _ _ => ?_)
  have hf0 := Fc_f hf f0
  rw [fr_6 hf0]
  refine dp_findFewest hd hs hf0 w0 ⟨by omega, by omega⟩ (fun M2 f2 g2 => ?_)
  have hf2 := Fx_f hf0 (by omega) f2
  have H : Q (fwo D s) M2 := hq M2 (Fc_t f0 (Fc_x (by omega) f2)) (Or.inr ⟨by rw [f2 10 (by omega)]; exact v0, fun i j i0 i1 i2 i3 => by rw [f2 13 (by omega)]; exact w0 i j i0 i1 i2 i3⟩)
  have h := fo_s (D := D) (s := s) n0
  have hn := nn_s (fo D s)
  unfold fwo at H
  refine dp_firstOf hd hs hf2 ha ?_
  refine dp_hasPoint hd hf2 (by unfold am_rg; omega) (fun y => ⟨by unfold am_rg; omega, fun e => absurd e (by omega), fun _ => ⟨by omega, ?_⟩⟩) (fun y => ⟨by unfold am_rg; omega, fun _ => ?_, fun e => absurd rfl e⟩)
  · rw [if_neg (by omega)] at H
    rw [show nn (fo D s) = fo D s by omega, g2 _ (by omega) (by omega)]
    exact H
  · rw [if_pos (by omega)] at H
    exact H
