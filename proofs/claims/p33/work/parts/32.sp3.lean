theorem fr_1 {M M' : am_M} (h : Fr8 M M') : M' 1 = M 1 := h 1 (by omega) (by omega)
theorem fr_2 {M M' : am_M} (h : Fr8 M M') : M' 2 = M 2 := h 2 (by omega) (by omega)
theorem fr_3 {M M' : am_M} (h : Fr8 M M') : M' 3 = M 3 := h 3 (by omega) (by omega)
theorem fr_4 {M M' : am_M} (h : Fr8 M M') : M' 4 = M 4 := h 4 (by omega) (by omega)
theorem fr_5 {M M' : am_M} (h : Fr8 M M') : M' 5 = M 5 := h 5 (by omega) (by omega)
theorem fr_6 {M M' : am_M} (h : Fr8 M M') : M' 6 = M 6 := h 6 (by omega) (by omega)
theorem fr_7 {M M' : am_M} (h : Fr8 M M') : M' 7 = M 7 := h 7 (by omega) (by omega)
theorem fr_8 {M M' : am_M} (h : Fr8 M M') : M' 8 = M 8 := h 8 (by omega) (by omega)
theorem Fr8_t {A B C : am_M} (h : Fr8 A B) (g : Fr8 B C) : Fr8 A C := fun k h1 h2 => (g k h1 h2).trans (h k h1 h2)
theorem Fr8_r {A : am_M} : Fr8 A A := fun _ _ _ => rfl
theorem Fr8_k {A B C : am_M} {j : Nat} (h : Fr8 A B) (hj : 8 < j) (g : ∀ k, k ≠ j → C k = B k) : Fr8 A C := fun k h1 h2 => (g k (by omega)).trans (h k h1 h2)
theorem kb_fr {M M' : am_M} (h : Fr8 M M') : ∀ i, kb M' i = kb M i
  | 0 => rfl
  | i + 1 => by unfold kb; rw [fr_4 h, kb_fr h i]
theorem kf_fr {M M' : am_M} (h : Fr8 M M') (n : Int) : ∀ i, kf M' n i = kf M n i
  | 0 => rfl
  | i + 1 => by unfold kf; rw [fr_4 h, kf_fr h n i]
theorem kc_fr {M M' : am_M} (h : Fr8 M M') : ∀ i, kc M' i = kc M i
  | 0 => rfl
  | i + 1 => by unfold kc; rw [fr_4 h, kc_fr h i]
theorem ek_fr {M M' : am_M} (h : Fr8 M M') (a : Int) : ek M' a = ek M a := by unfold ek; rw [kb_fr h, fr_5 h]
theorem lk_fr {M M' : am_M} (h : Fr8 M M') (a : Int) : lk M' a = lk M a := by unfold lk; rw [fr_1 h, kf_fr h, fr_5 h]
theorem span_fr {M M' : am_M} (h : Fr8 M M') (a b : Int) : sp_span M' a b = sp_span M a b := by unfold sp_span; rw [fr_6 h, fr_2 h]
theorem rise_fr {M M' : am_M} (h : Fr8 M M') (a b : Int) : sp_rise M' a b = sp_rise M a b := by unfold sp_rise; rw [fr_6 h, fr_3 h]
theorem ms_fr {M M' : am_M} (h : Fr8 M M') (a b k : Int) : sp_ms M' a b k = sp_ms M a b k := by unfold sp_ms; rw [fr_2 h, fr_3 h, span_fr h, rise_fr h]
theorem mi_fr {M M' : am_M} (h : Fr8 M M') (a b k : Int) : sp_mi M' a b k = sp_mi M a b k := by unfold sp_mi; rw [ms_fr h]
theorem mx_fr {M M' : am_M} (h : Fr8 M M') (a b : Int) : ∀ m, sp_mx M' a b m = sp_mx M a b m
  | 0 => rfl
  | m + 1 => by rw [mx_s, mx_s, mx_fr h a b m, mi_fr h]
theorem wi_fr {M M' : am_M} (h : Fr8 M M') (a b : Int) : ∀ m, sp_wi M' a b m = sp_wi M a b m
  | 0 => rfl
  | m + 1 => by rw [wi_s, wi_s, wi_fr h a b m, mx_fr h, mi_fr h]
/-! the same over a fixed diary D -/
theorem dp_sameStretch {a b : Int} {D M : am_M} {Q : Int → am_M → Prop} {c : Int} (hd : OKd c D) (hs : OKs D) (hf : Fr8 D M) (ha : am_rg a) (hb : am_rg b) (h1 : (0 ≤ a ∧ a < D 1 7) ∧ (0 ≤ b ∧ b < D 1 7) ∧ D 5 a = D 5 b → Q 1 M) (h0 : ¬ ((0 ≤ a ∧ a < D 1 7) ∧ (0 ≤ b ∧ b < D 1 7) ∧ D 5 a = D 5 b) → Q 0 M) : wp_X2_sameStretch a b M Q :=
  sp_sameStretch (OKd_fr hd hf) (OKs_fr hs hf) ha hb (by rw [fr_1 hf, fr_5 hf]; exact h1) (by rw [fr_1 hf, fr_5 hf]; exact h0)
theorem dp_hasPoint {a : Int} {D M : am_M} {Q : Int → am_M → Prop} {c : Int} (hd : OKd c D) (hf : Fr8 D M) (ha : am_rg a) (h1 : 0 ≤ a ∧ a < D 1 7 → Q 1 M) (h0 : ¬ (0 ≤ a ∧ a < D 1 7) → Q 0 M) : wp_X2_hasPoint a M Q :=
  sp_hasPoint (OKd_fr hd hf) ha (by rw [fr_1 hf]; exact h1) (by rw [fr_1 hf]; exact h0)
theorem dp_placeOf {t : Int} {D M : am_M} {Q : Int → am_M → Prop} {c : Int} (hd : OKd c D) (hf : Fr8 D M) (ht : am_rg t) (hq : ∀ p, 0 ≤ p → p ≤ D 1 7 → (∀ i, 0 ≤ i → i < p → D 2 i < t) → (p < D 1 7 → t ≤ D 2 p) → Q p M) : wp_X2_placeOf t M Q :=
  sp_placeOf (OKd_fr hd hf) ht (by rw [fr_1 hf, fr_2 hf]; exact hq)
theorem dp_hasTime {t : Int} {D M : am_M} {Q : Int → am_M → Prop} {c : Int} (hd : OKd c D) (hf : Fr8 D M) (ht : am_rg t) (h1 : ∀ p, 0 ≤ p → p < D 1 7 → D 2 p = t → Q 1 M) (h0 : (∀ i, 0 ≤ i → i < D 1 7 → D 2 i ≠ t) → Q 0 M) : wp_X2_hasTime t M Q :=
  sp_hasTime (OKd_fr hd hf) ht (by rw [fr_1 hf, fr_2 hf]; exact h1) (by rw [fr_1 hf, fr_2 hf]; exact h0)
theorem dp_isKept {a : Int} {D M : am_M} {Q : Int → am_M → Prop} {c : Int} (hd : OKd c D) (hf : Fr8 D M) (ha : am_rg a) (h1 : (0 ≤ a ∧ a < D 1 7) ∧ D 4 a = 1 → Q 1 M) (h0 : ¬ ((0 ≤ a ∧ a < D 1 7) ∧ D 4 a = 1) → Q 0 M) : wp_X2_isKept a M Q :=
  sp_isKept (OKd_fr hd hf) ha (by rw [fr_1 hf, fr_4 hf]; exact h1) (by rw [fr_1 hf, fr_4 hf]; exact h0)
theorem dp_isStep {D M : am_M} {Q : Int → am_M → Prop} {c : Int} (hd : OKd c D) (hf : Fr8 D M) (h1 : D 6 2 = 1 → Q 1 M) (h0 : D 6 2 = 0 → Q 0 M) : wp_X2_isStep M Q :=
  sp_isStep (OKd_fr hd hf) (by rw [fr_6 hf]; exact h1) (by rw [fr_6 hf]; exact h0)
theorem dp_keptBelow {p : Int} {D M : am_M} {Q : Int → am_M → Prop} {c : Int} (hd : OKd c D) (hf : Fr8 D M) (hp : 0 ≤ p ∧ p ≤ D 1 7) (hq : Q (nn (kb D p.toNat)) M) : wp_X2_keptBelow p M Q :=
  sp_keptBelow (OKd_fr hd hf) (by rw [fr_1 hf]; exact hp) (by rw [kb_fr hf]; exact hq)
theorem dp_keptFrom {p : Int} {D M : am_M} {Q : Int → am_M → Prop} {c : Int} (hd : OKd c D) (hf : Fr8 D M) (hp : 0 ≤ p ∧ p ≤ D 1 7) (hq : Q (nn (kf D (D 1 7) (D 1 7 - p).toNat)) M) : wp_X2_keptFrom p M Q :=
  sp_keptFrom (OKd_fr hd hf) (by rw [fr_1 hf]; exact hp) (by rw [fr_1 hf, kf_fr hf]; exact hq)
theorem dp_keptPoints {D M : am_M} {Q : Int → am_M → Prop} {c : Int} (hd : OKd c D) (hf : Fr8 D M) (hq : Q (kc D (D 1 7).toNat) M) : wp_X2_keptPoints M Q :=
  sp_keptPoints (OKd_fr hd hf) (by rw [fr_1 hf, kc_fr hf]; exact hq)
theorem dp_earlierKept {a : Int} {D M : am_M} {Q : Int → am_M → Prop} {c : Int} (hd : OKd c D) (hs : OKs D) (hf : Fr8 D M) (ha : 0 ≤ a ∧ a < D 1 7) (hq : Q (nn (ek D a)) M) : wp_X2_earlierKept a M Q :=
  sp_earlierKept (OKd_fr hd hf) (OKs_fr hs hf) (by rw [fr_1 hf]; exact ha) (by rw [ek_fr hf]; exact hq)
theorem dp_laterKept {a : Int} {D M : am_M} {Q : Int → am_M → Prop} {c : Int} (hd : OKd c D) (hs : OKs D) (hf : Fr8 D M) (ha : 0 ≤ a ∧ a < D 1 7) (hq : Q (nn (lk D a)) M) : wp_X2_laterKept a M Q :=
  sp_laterKept (OKd_fr hd hf) (OKs_fr hs hf) (by rw [fr_1 hf]; exact ha) (by rw [lk_fr hf]; exact hq)
theorem dp_findWorst {a b : Int} {D M : am_M} {Q : Int → am_M → Prop} {c : Int} (hd : OKd c D) (hs : OKs D) (hf : Fr8 D M) (h0 : 0 ≤ a) (h1 : a < b) (h2 : b < D 1 7) (h3 : D 5 a = D 5 b)
    (hq : ∀ M', (∀ k, k ≠ 9 → M' k = M k) → M' 9 1 = (if sp_mx D a b (b - a - 1).toNat < 0 then 0 else sp_mx D a b (b - a - 1).toNat) → M' 9 2 = sp_span D a b → Q (sp_wi D a b (b - a - 1).toNat) M') : wp_X1_findWorst a b M Q :=
  sp_findWorst (OKd_fr hd hf) (OKs_fr hs hf) h0 h1 (by rw [fr_1 hf]; exact h2) (by rw [fr_5 hf]; exact h3) (by
    intro M' f1 f2 f3
    rw [mx_fr hf] at f2
    rw [span_fr hf] at f3
    rw [wi_fr hf]
    exact hq M' f1 f2 f3)
/-! sums and first places -/
def sm (f : Int → Int) : Nat → Int
  | 0 => 0
  | i + 1 => sm f i + f (i : Int)
theorem sm_cg {f g : Int → Int} : ∀ (n : Nat), (∀ i, 0 ≤ i → i < (n : Int) → f i = g i) → sm f n = sm g n
  | 0, _ => rfl
  | n + 1, h => by
    unfold sm
    rw [sm_cg n (fun i i0 i1 => h i i0 (by omega)), h n (by omega) (by omega)]
theorem sm_b {f : Int → Int} : ∀ (n : Nat), (∀ i, 0 ≤ i → i < (n : Int) → 0 ≤ f i ∧ f i ≤ 1) → 0 ≤ sm f n ∧ sm f n ≤ (n : Int)
  | 0, _ => by unfold sm; omega
  | n + 1, h => by
    have := sm_b n (fun i i0 i1 => h i i0 (by omega))
    have := h n (by omega) (by omega)
    unfold sm
    omega
theorem kc_b {c : Int} {M : am_M} (hd : OKd c M) : ∀ i : Nat, (i : Int) ≤ M 1 7 → 0 ≤ kc M i ∧ kc M i ≤ (i : Int)
  | 0, _ => by unfold kc; omega
  | i + 1, h => by
    have := kc_b hd i (by omega)
    have := OKd_k hd (i := (i : Int)) (by omega) (by omega)
    unfold kc
    omega
/-- the first place from n - r on where f is x; -1 without one -/
def fx (f : Int → Int) (x n : Int) : Nat → Int
  | 0 => -1
  | r + 1 => if f (n - ((r : Int) + 1)) = x then n - ((r : Int) + 1) else fx f x n r
theorem fx_s (f : Int → Int) (x n : Int) : ∀ r : Nat, (fx f x n r = -1 ∧ ∀ i, n - (r : Int) ≤ i → i < n → f i ≠ x) ∨ (n - (r : Int) ≤ fx f x n r ∧ fx f x n r < n ∧ f (fx f x n r) = x ∧ ∀ i, n - (r : Int) ≤ i → i < fx f x n r → f i ≠ x)
  | 0 => Or.inl ⟨rfl, fun i i0 i1 => by omega⟩
  | r + 1 => by
    have ih := fx_s f x n r
    unfold fx
    split
    next e => exact Or.inr ⟨by omega, by omega, e, fun i i0 i1 => by omega⟩
    next e =>
      rcases ih with ⟨h1, h2⟩ | ⟨h1, h2, h3, h4⟩
      · refine Or.inl ⟨h1, fun i i0 i1 => ?_⟩
        by_cases hi : i = n - ((r : Int) + 1)
        · subst hi; exact e
        · exact h2 i (by omega) i1
      · refine Or.inr ⟨by omega, h2, h3, fun i i0 i1 => ?_⟩
        by_cases hi : i = n - ((r : Int) + 1)
        · subst hi; exact e
        · exact h4 i (by omega) i1
def so (M : am_M) (s : Int) : Int := sm (fun i => if M 5 i = s then 1 else 0) (M 1 7).toNat
def ko (M : am_M) (s : Int) : Int := sm (fun i => if M 5 i = s ∧ M 4 i = 1 then 1 else 0) (M 1 7).toNat
def fo (M : am_M) (s : Int) : Int := fx (M 5) s (M 1 7) (M 1 7).toNat
def cs (M : am_M) : Int := if M 1 7 = 0 then 0 else M 5 (M 1 7 - 1) + 1
theorem dp_sizeOf {s : Int} {D M : am_M} {Q : Int → am_M → Prop} {c : Int} (hd : OKd c D) (hs : OKs D) (hf : Fr8 D M) (ha : am_rg s) (hq : Q (so D s) M) : wp_X2_sizeOf s M Q := by
  have hd' := hd
  obtain ⟨⟨n0, n1⟩, -⟩ := hd'
  have e1 : M 1 7 = D 1 7 := congrFun (fr_1 hf) 7
  have loop : ∀ (r : Nat) (k : Nat), (k : Int) + r = D 1 7 → wl_X2_sizeOf_4 Q (r + 1) s (sm (fun i => if D 5 i = s then 1 else 0) k) (k : Int) M := by
    intro r
    induction r with
    | zero =>
      intro k hk
      refine ⟨by unfold am_rg; omega, by unfold am_rg; omega, fun _ => ?_, fun q => absurd q (by omega)⟩
      unfold so at hq
      rw [show k = (D 1 7).toNat by omega]
      exact hq
    | succ r ih =>
      intro k hk
      have hS := OKs_b hs (i := (k : Int)) (by omega) (by omega)
      have e5 : M 5 (k : Int) = D 5 (k : Int) := congrFun (fr_5 hf) _
      have ih' := ih (k + 1) (by omega)
      unfold sm at ih'
      refine ⟨by unfold am_rg; omega, by unfold am_rg; omega, fun q => absurd q (by omega), fun q => ⟨by omega, by unfold am_rg; omega, ha, fun e => ?_, fun e => ?_⟩⟩
      · rw [if_neg (by omega)] at ih'
        rw [Int.add_zero] at ih'
        exact ih'
      · rw [if_pos (by omega)] at ih'
        exact ih'
  exact ⟨_, loop (D 1 7).toNat 0 (by omega)⟩
theorem dp_keptOf {s : Int} {D M : am_M} {Q : Int → am_M → Prop} {c : Int} (hd : OKd c D) (hs : OKs D) (hf : Fr8 D M) (ha : am_rg s) (hq : Q (ko D s) M) : wp_X2_keptOf s M Q := by
  have hd' := hd
  obtain ⟨⟨n0, n1⟩, -⟩ := hd'
  have e1 : M 1 7 = D 1 7 := congrFun (fr_1 hf) 7
  have loop : ∀ (r : Nat) (k : Nat), (k : Int) + r = D 1 7 → wl_X2_keptOf_4 Q (r + 1) s (sm (fun i => if D 5 i = s ∧ D 4 i = 1 then 1 else 0) k) (k : Int) M := by
    intro r
    induction r with
    | zero =>
      intro k hk
      refine ⟨by unfold am_rg; omega, by unfold am_rg; omega, fun _ => ?_, fun q => absurd q (by omega)⟩
      unfold ko at hq
      rw [show k = (D 1 7).toNat by omega]
      exact hq
    | succ r ih =>
      intro k hk
      have hS := OKs_b hs (i := (k : Int)) (by omega) (by omega)
      have hK := OKd_k hd (i := (k : Int)) (by omega) (by omega)
      have e5 : M 5 (k : Int) = D 5 (k : Int) := congrFun (fr_5 hf) _
      have e4 : M 4 (k : Int) = D 4 (k : Int) := congrFun (fr_4 hf) _
      have ih' := ih (k + 1) (by omega)
      unfold sm at ih'
      refine ⟨by unfold am_rg; omega, by unfold am_rg; omega, fun q => absurd q (by omega), fun q => ⟨by omega, by unfold am_rg; omega, ha, fun e => ?_, fun e => ⟨by omega, by unfold am_rg; omega, fun e2 => ?_, fun e2 => ?_⟩⟩⟩
      · rw [if_neg (by omega)] at ih'
        rw [Int.add_zero] at ih'
        exact ih'
      · rw [if_neg (by omega)] at ih'
        rw [Int.add_zero] at ih'
        exact ih'
      · rw [if_pos (by omega)] at ih'
        exact ih'
  exact ⟨_, loop (D 1 7).toNat 0 (by omega)⟩
theorem dp_firstOf {s : Int} {D M : am_M} {Q : Int → am_M → Prop} {c : Int} (hd : OKd c D) (hs : OKs D) (hf : Fr8 D M) (ha : am_rg s) (hq : Q (nn (fo D s)) M) : wp_X2_firstOf s M Q := by
  have hd' := hd
  obtain ⟨⟨n0, n1⟩, -⟩ := hd'
  have e1 : M 1 7 = D 1 7 := congrFun (fr_1 hf) 7
  have loop : ∀ (r : Nat), (r : Int) ≤ D 1 7 → Q (nn (fx (D 5) s (D 1 7) r)) M → wl_X2_firstOf_2 Q (r + 1) s (D 1 7 - (r : Int)) M := by
    intro r
    induction r with
    | zero =>
      intro hk hq
      exact ⟨by unfold am_rg; omega, by unfold am_rg; omega, fun _ => hq, fun q => absurd q (by omega)⟩
    | succ r ih =>
      intro hk hq
      have ec : D 1 7 - ((r + 1 : Nat) : Int) = D 1 7 - ((r : Int) + 1) := by omega
      have hS := OKs_b hs (i := D 1 7 - ((r : Int) + 1)) (by omega) (by omega)
      have e5 : M 5 (D 1 7 - ((r : Int) + 1)) = D 5 (D 1 7 - ((r : Int) + 1)) := congrFun (fr_5 hf) _
      rw [ec]
      unfold fx at hq
      refine ⟨by unfold am_rg; omega, by unfold am_rg; omega, fun q => absurd q (by omega), fun q => ⟨by omega, by unfold am_rg; omega, ha, fun e => ?_, fun e => ?_⟩⟩
      · rw [if_neg (by omega)] at hq
        rw [show D 1 7 - ((r : Int) + 1) + 1 = D 1 7 - (r : Int) by omega]
        exact ih (by omega) hq
      · rw [if_pos (by omega)] at hq
        unfold nn at hq
        rw [if_neg (by omega)] at hq
        exact hq
  have h := loop (D 1 7).toNat (by omega) hq
  rw [show D 1 7 - (((D 1 7).toNat : Nat) : Int) = 0 by omega] at h
  exact ⟨_, h⟩
theorem cs_b {c : Int} {D : am_M} (hd : OKd c D) (hs : OKs D) : 0 ≤ cs D ∧ cs D ≤ D 1 7 := by
  obtain ⟨⟨n0, n1⟩, -⟩ := hd
  unfold cs
  split
  · omega
  · have := OKs_b hs (i := D 1 7 - 1) (by omega) (by omega)
    omega
theorem dp_stretchCount {D M : am_M} {Q : Int → am_M → Prop} {c : Int} (hd : OKd c D) (hs : OKs D) (hf : Fr8 D M) (hq : Q (cs D) M) : wp_X2_stretchCount M Q := by
  have hd' := hd
  obtain ⟨⟨n0, n1⟩, -⟩ := hd'
  have e1 : M 1 7 = D 1 7 := congrFun (fr_1 hf) 7
  unfold wp_X2_stretchCount
  rw [fr_1 hf]
  unfold cs at hq
  refine dp_hasPoint hd hf (by unfold am_rg; omega) (fun q => ⟨by unfold am_rg; omega, fun e => absurd e (by omega), fun _ => ⟨by omega, ?_⟩⟩) (fun q => ⟨by unfold am_rg; omega, fun _ => ?_, fun e => absurd rfl e⟩)
  · rw [if_neg (by omega)] at hq
    rw [fr_5 hf, fr_1 hf]
    exact hq
  · rw [if_pos (by omega)] at hq
    exact hq
/-- a point begins its stretch, ends it -/
def bs (D : am_M) (i : Int) : Prop := i = 0 ∨ D 5 (i - 1) ≠ D 5 i
def es (D : am_M) (i : Int) : Prop := i + 1 = D 1 7 ∨ D 5 i ≠ D 5 (i + 1)
theorem dp_beginsStretch {i : Int} {D M : am_M} {Q : Int → am_M → Prop} {c : Int} (hd : OKd c D) (hs : OKs D) (hf : Fr8 D M) (hi : 0 ≤ i ∧ i < D 1 7) (h1 : bs D i → Q 1 M) (h0 : ¬ bs D i → Q 0 M) : wp_X2_beginsStretch i M Q := by
  have hd' := hd
  obtain ⟨⟨n0, n1⟩, -⟩ := hd'
  unfold bs at h1 h0
  refine dp_sameStretch hd hs hf (by unfold am_rg; omega) (by unfold am_rg; omega) (fun q => ⟨by unfold am_rg; omega, fun _ => h0 (by omega), fun e => absurd e (by omega)⟩) (fun q => ⟨by unfold am_rg; omega, fun e => absurd rfl e, fun _ => h1 (by omega)⟩)
theorem dp_endsStretch {i : Int} {D M : am_M} {Q : Int → am_M → Prop} {c : Int} (hd : OKd c D) (hs : OKs D) (hf : Fr8 D M) (hi : 0 ≤ i ∧ i < D 1 7) (h1 : es D i → Q 1 M) (h0 : ¬ es D i → Q 0 M) : wp_X2_endsStretch i M Q := by
  have hd' := hd
  obtain ⟨⟨n0, n1⟩, -⟩ := hd'
  unfold es at h1 h0
  refine dp_sameStretch hd hs hf (by unfold am_rg; omega) (by unfold am_rg; omega) (fun q => ⟨by unfold am_rg; omega, fun _ => h0 (by omega), fun e => absurd e (by omega)⟩) (fun q => ⟨by unfold am_rg; omega, fun e => absurd rfl e, fun _ => h1 (by omega)⟩)
