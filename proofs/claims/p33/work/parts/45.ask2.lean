noncomputable def sq (D : am_M) (s w : Int) : Int := if w = 0 then nn (fo D s) else if w = 1 then so D s else if w = 2 then ko D s else if w = 3 then bm D (nn (fo D s)) (so D s).toNat else fwo D s
/-- a stretch's points lie together -/
theorem so_s {D : am_M} (hs : OKs D) {s : Int} : ∀ n : Nat, (n : Int) ≤ D 1 7 → 0 ≤ sm (fun i => if D 5 i = s then 1 else 0) n ∧ (0 < sm (fun i => if D 5 i = s then 1 else 0) n → 0 ≤ fo D s ∧ fo D s + sm (fun i => if D 5 i = s then 1 else 0) n ≤ (n : Int))
  | 0, _ => by unfold sm; exact ⟨by omega, fun h => by omega⟩
  | n + 1, hn => by
    have ih := so_s hs (s := s) n (by omega)
    rw [sm_s]
    by_cases z : D 5 (n : Int) = s
    · simp only [if_pos z]
      have hf := fo_s (D := D) (s := s) (by omega)
      rcases hf with ⟨-, h⟩ | ⟨h1, h2, h3, h4⟩
      · exact absurd z (h n (by omega) (by omega))
      · have : fo D s ≤ (n : Int) := by
          by_cases y : fo D s ≤ (n : Int)
          · exact y
          · exact absurd z (h4 n (by omega) (by omega))
        refine ⟨by omega, fun _ => ⟨h1, ?_⟩⟩
        by_cases y : 0 < sm (fun i => if D 5 i = s then 1 else 0) n
        · have := ih.2 y; omega
        · omega
    · simp only [if_neg z]
      refine ⟨by omega, fun h => ?_⟩
      have := ih.2 (by omega)
      omega
theorem dp_stretch {s w : Int} {D M : am_M} {Q : Int → am_M → Prop} {X : am_X} {c : Int} (hd : OKd c D) (hs : OKs D) (hf : Fr8 D M) (hv : NV D M) (hp : am_rg s) (hw : am_rg w)
    (x2 : ¬ (0 ≤ s ∧ s < cs D) → X 2 M) (x0 : 0 ≤ s ∧ s < cs D → ¬ (0 ≤ w ∧ w ≤ 4) → X 0 M) (hq : 0 ≤ s ∧ s < cs D → 0 ≤ w ∧ w ≤ 4 → ∀ M', Ask D M M' → Q (sq D s w) M') : wp_X5_stretch s w M Q X := by
  have hd' := hd
  obtain ⟨⟨n0, n1⟩, -⟩ := hd'
  refine dp_refuseNoStretch hd hs hf hp (fun h => dp_refuseOutside hw (by unfold am_rg; omega) (fun hw2 => ?_) (x0 h)) x2
  have H := hq h hw2
  unfold sq at H
  have hso := so_s hs (s := s) (D 1 7).toNat (by omega)
  have eso : so D s = sm (fun i => if D 5 i = s then 1 else 0) (D 1 7).toNat := rfl
  rw [← eso] at hso
  have hn := nn_s (fo D s)
  refine ⟨hw, fun e => dp_fewestOf hd hs hf hv hp (fun M' f1 f2 => ?_), fun e => dp_firstOf hd hs hf hp ?_, fun e => dp_sizeOf hd hs hf hp ?_, fun e => dp_keptOf hd hs hf hp ?_, fun e => dp_firstOf hd hs hf hp (dp_sizeOf hd hs hf hp (dp_brokenAmong hd hs hf hv (by omega) (by omega) (by omega) (fun M' f => ?_)))⟩
  · have := H M' ⟨f1, f2⟩
    rw [if_neg (by omega), if_neg (by omega), if_neg (by omega), if_neg (by omega)] at this
    exact this
  · have := H M (Ask_r hv)
    rw [if_pos e] at this
    exact this
  · have := H M (Ask_r hv)
    rw [if_neg (by omega), if_pos e] at this
    exact this
  · have := H M (Ask_r hv)
    rw [if_neg (by omega), if_neg (by omega), if_pos e] at this
    exact this
  · have := H M' f
    rw [if_neg (by omega), if_neg (by omega), if_neg (by omega), if_pos e] at this
    exact this
theorem dp_true01 {k : Int} {D M : am_M} {Q : Int → am_M → Prop} {c : Int} (hd : OKd c D) (hs : OKs D) (hf : Fr8 D M) (hk : 0 ≤ k ∧ k < D 1 8) (hq : ∀ M', Fx 9 M M' → Q (pi1 (tn D (D 7 k) (D 8 k))) M') : wp_X1_isTrue k M Q :=
  dp_isTrue hd hs hf hk (fun b M' f => by have := hq M' f; rw [pi1_t b] at this; exact this) (fun b M' f => by have := hq M' f; rw [pi1_f b] at this; exact this)
noncomputable def tnm (D : am_M) : Nat → Int := sm (fun k => pi1 (tn D (D 7 k) (D 8 k)))
theorem dp_trueNotes {D M : am_M} {Q : Int → am_M → Prop} {c : Int} (hd : OKd c D) (hs : OKs D) (hf : Fr8 D M) (hv : NV D M) (hq : ∀ M', Ask D M M' → Q (tnm D (D 1 8).toNat) M') : wp_X5_trueNotes M Q := by
  have hk8 := hd.2.2.2.2.2.2.1
  have loop : ∀ (r k : Nat) (M1 : am_M), (k : Int) + r = D 1 8 → Fx 9 M M1 → wl_X5_trueNotes_4 Q (r + 1) (tnm D k) (k : Int) M1 := by
    intro r
    induction r with
    | zero =>
      intro k M1 hk f
      have e1 : M1 1 8 = D 1 8 := congrFun (fr_1 (Fx_f hf (by omega) f)) 8
      refine ⟨by unfold am_rg; omega, by unfold am_rg; omega, fun _ => ?_, fun e => absurd e (by omega)⟩
      rw [show k = (D 1 8).toNat by omega]
      exact hq M1 (Ask_9 hv f)
    | succ r ih =>
      intro k M1 hk f
      have e1 : M1 1 8 = D 1 8 := congrFun (fr_1 (Fx_f hf (by omega) f)) 8
      refine ⟨by unfold am_rg; omega, by unfold am_rg; omega, fun e => absurd e (by omega), fun _ => ?_⟩
      refine dp_true01 hd hs (Fx_f hf (by omega) f) ⟨by omega, by omega⟩ (fun M2 f2 => ?_)
      have h := ih (k + 1) M2 (by omega) (Fx_t f f2)
      have e : tnm D (k + 1) = tnm D k + pi1 (tn D (D 7 (k : Int)) (D 8 (k : Int))) := rfl
      rw [e] at h
      rcases pi1_b (tn D (D 7 (k : Int)) (D 8 (k : Int))) with z | z
      · rw [z, Int.add_zero] at h; rw [z]; exact ⟨by unfold am_rg; omega, fun _ => h, fun e => absurd rfl e⟩
      · rw [z] at h; rw [z]; exact ⟨by unfold am_rg; omega, fun e => absurd e (by omega), fun _ => h⟩
  exact ⟨_, loop (D 1 8).toNat 0 M (by omega) Fx_r⟩
/-- rounded up, shortened or not -/
theorem cl_gd {x y : Int} (hx : 0 ≤ x) (hy : 1 ≤ y) : Int.tdiv (Int.tdiv x (gd x y) + Int.tdiv y (gd x y) - 1) (Int.tdiv y (gd x y)) = Int.tdiv (x + y - 1) y := by
  have hg := gd_b (x := x) hy
  obtain ⟨h1, h2, h3, -, -⟩ := gd_x (x := x) hy
  have hx' : 0 ≤ Int.tdiv x (gd x y) := Int.tdiv_nonneg hx (by omega)
  have key : ∀ o, Int.tdiv (Int.tdiv x (gd x y) + Int.tdiv y (gd x y) - 1) (Int.tdiv y (gd x y)) ≤ o ↔ Int.tdiv (x + y - 1) y ≤ o := by
    intro o
    rw [cl_le hx' h3, cl_le hx hy]
    generalize Int.tdiv x (gd x y) = x' at *
    generalize Int.tdiv y (gd x y) = y' at *
    generalize gd x y = g at *
    have e2 : o * y = (o * y') * g := by rw [h2, Int.mul_assoc]
    rw [e2, h1]
    exact ⟨fun h => Int.mul_le_mul_of_nonneg_right h (by omega), fun h => Int.le_of_mul_le_mul_right h (by omega)⟩
  exact Int.le_antisymm ((key _).mpr (Int.le_refl _)) ((key _).mp (Int.le_refl _))
def gu (D : am_M) (p : Int) : Int := if D 4 p = 1 ∨ et D p < 0 then 0 else Int.tdiv (et D p + eb D p - 1) (eb D p)
def gE (D : am_M) : Nat → Int
  | 0 => 0
  | i + 1 => if gE D i < gu D (i : Int) then gu D (i : Int) else gE D i
theorem gu_b {c : Int} {D : am_M} (hd : OKd c D) {p : Int} (hp : 0 ≤ p ∧ p < D 1 7) : 0 ≤ gu D p ∧ gu D p ≤ 39960000 := by
  have hb := ee_b hd hp
  unfold gu
  split
  · omega
  · have := cl_b (a := et D p) (s := eb D p) (by omega) (by omega)
    omega
theorem gE_b {c : Int} {D : am_M} (hd : OKd c D) : ∀ i : Nat, (i : Int) ≤ D 1 7 → 0 ≤ gE D i ∧ gE D i ≤ 39960000
  | 0, _ => by unfold gE; omega
  | i + 1, h => by
    have ih := gE_b hd i (by omega)
    have hg := gu_b hd (p := (i : Int)) (by omega)
    unfold gE
    split <;> omega
theorem dp_greatestError {D M : am_M} {Q : Int → am_M → Prop} {c : Int} (hd : OKd c D) (hs : OKs D) (hf : Fr8 D M) (hv : NV D M) (hq : ∀ M', Ask D M M' → Q (gE D (D 1 7).toNat) M') : wp_X5_greatestError M Q := by
  have hd' := hd
  obtain ⟨⟨n0, n1⟩, -⟩ := hd'
  have loop : ∀ (r k : Nat) (M1 : am_M), (k : Int) + r = D 1 7 → Fx 9 M M1 → wl_X5_greatestError_4 Q (r + 1) (gE D k) (k : Int) M1 := by
    intro r
    induction r with
    | zero =>
      intro k M1 hk f
      have e1 : M1 1 7 = D 1 7 := congrFun (fr_1 (Fx_f hf (by omega) f)) 7
      refine ⟨by unfold am_rg; omega, by unfold am_rg; omega, fun _ => ?_, fun e => absurd e (by omega)⟩
      rw [show k = (D 1 7).toNat by omega]
      exact hq M1 (Ask_9 hv f)
    | succ r ih =>
      intro k M1 hk f
      have hf1 := Fx_f hf (by omega) f
      have e1 : M1 1 7 = D 1 7 := congrFun (fr_1 hf1) 7
      have hp : 0 ≤ (k : Int) ∧ (k : Int) < D 1 7 := ⟨by omega, by omega⟩
      have hb := ee_b hd hp
      have hgE := gE_b hd k (by omega)
      have es : gE D (k + 1) = if gE D k < gu D (k : Int) then gu D (k : Int) else gE D k := rfl
      refine ⟨by unfold am_rg; omega, by unfold am_rg; omega, fun e => absurd e (by omega), fun _ => ?_⟩
      refine dp_isKept hd hf1 (by unfold am_rg; omega) (fun y => ⟨by unfold am_rg; omega, fun _ => ?_, fun e => absurd e (by omega)⟩) (fun y => ⟨by unfold am_rg; omega, fun e => absurd rfl e, fun _ => ?_⟩)
      · have h := ih (k + 1) M1 (by omega) f
        have eg : gu D (k : Int) = 0 := by unfold gu; rw [if_pos (Or.inl y.2)]
        rw [es, eg, if_neg (by omega)] at h
        exact h
      · have nk : ¬ D 4 (k : Int) = 1 := fun z => y ⟨hp, z⟩
        refine dp_findError hd hs hf1 hp (fun z M2 f2 v1 v2 => ⟨by unfold am_rg; omega, fun e => absurd e (by omega), fun _ => ?_⟩) (fun z M2 f2 => ⟨by unfold am_rg; omega, fun _ => ?_, fun e => absurd rfl e⟩)
        · obtain ⟨g1, g2, g3, g4, g5⟩ := gd_x (x := et D (k : Int)) (y := eb D (k : Int)) (by omega)
          have g6 : 0 ≤ Int.tdiv (et D (k : Int)) (gd (et D (k : Int)) (eb D (k : Int))) := Int.tdiv_nonneg z (by have := gd_b (x := et D (k : Int)) (y := eb D (k : Int)) (by omega); omega)
          rw [v1, v2]
          refine dp_roundedUp (by omega) (by omega) ?_
          rw [cl_gd z (by omega)]
          have eg : gu D (k : Int) = Int.tdiv (et D (k : Int) + eb D (k : Int) - 1) (eb D (k : Int)) := by unfold gu; rw [if_neg (by omega)]
          rw [← eg]
          have hgu := gu_b hd hp
          have h := ih (k + 1) M2 (by omega) (Fx_t f f2)
          rw [es] at h
          exact ⟨by unfold am_rg; omega, by unfold am_rg; omega, h⟩
        · have h := ih (k + 1) M2 (by omega) (Fx_t f f2)
          have eg : gu D (k : Int) = 0 := by unfold gu; rw [if_pos (Or.inr z)]
          rw [es, eg, if_neg (by omega)] at h
          exact h
  exact ⟨_, loop (D 1 7).toNat 0 M (by omega) Fx_r⟩
