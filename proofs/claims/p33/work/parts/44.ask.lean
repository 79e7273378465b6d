/-! what the component answers, changing nothing of the diary -/
theorem NV_9 {D M M' : am_M} (h : NV D M) (f : Fx 9 M M') : NV D M' := by
  unfold NV ND at h ⊢
  rw [f 10 (by omega), f 13 (by omega)]
  exact h
/-- a question: only scratch changes -/
def Ask (D M M' : am_M) : Prop := Fc M M' ∧ NV D M'
theorem Ask_r {D M : am_M} (h : NV D M) : Ask D M M := ⟨Fc_r, h⟩
theorem Ask_9 {D M M' : am_M} (h : NV D M) (f : Fx 9 M M') : Ask D M M' := ⟨Fc_x (by omega) f, NV_9 h f⟩
theorem Ask_t {D A B C : am_M} (h : Ask D A B) (g : Ask D B C) : Ask D A C := ⟨Fc_t h.1 g.1, g.2⟩
theorem dp_refuseNoPoint {p : Int} {D M : am_M} {Q : am_M → Prop} {X : am_X} {c : Int} (hd : OKd c D) (hf : Fr8 D M) (hp : am_rg p) (q : 0 ≤ p ∧ p < D 1 7 → Q M) (x : ¬ (0 ≤ p ∧ p < D 1 7) → X 2 M) : wp_X5_refuseNoPoint p M Q X :=
  dp_hasPoint hd hf hp (fun h => ⟨by unfold am_rg; omega, fun _ => q h, fun e => absurd e (by omega)⟩) (fun h => ⟨by unfold am_rg; omega, fun e => absurd rfl e, fun _ => x h⟩)
theorem dp_refuseOutside {w g : Int} {M : am_M} {Q : am_M → Prop} {X : am_X} (hw : am_rg w) (hg : am_rg g) (q : 0 ≤ w ∧ w ≤ g → Q M) (x : ¬ (0 ≤ w ∧ w ≤ g) → X 0 M) : wp_X5_refuseOutside w g M Q X :=
  ⟨hw, fun e => x (by omega), fun e => ⟨hw, hg, fun e2 => q (by omega), fun e2 => x (by omega)⟩⟩
theorem dp_refuseNoStretch {s : Int} {D M : am_M} {Q : am_M → Prop} {X : am_X} {c : Int} (hd : OKd c D) (hs : OKs D) (hf : Fr8 D M) (h : am_rg s) (q : 0 ≤ s ∧ s < cs D → Q M) (x : ¬ (0 ≤ s ∧ s < cs D) → X 2 M) : wp_X5_refuseNoStretch s M Q X := by
  have hb := cs_b hd hs
  have hd' := hd
  obtain ⟨⟨n0, n1⟩, -⟩ := hd'
  exact ⟨h, fun e => x (by omega), fun e => dp_stretchCount hd hs hf ⟨h, by unfold am_rg; omega, fun e2 => q (by omega), fun e2 => x (by omega)⟩⟩
noncomputable def pq (D : am_M) (p w : Int) : Int := if w = 0 then D 2 p else if w = 1 then D 3 p else if w = 2 then D 4 p else if w = 3 then pi1 (bk D p) else if w = 4 then D 5 p else if w = 5 then nn (ek D p) else if w = 6 then nn (lk D p) else rk D p
theorem dp_broken01 {p : Int} {D M : am_M} {Q : Int → am_M → Prop} {c : Int} (hd : OKd c D) (hs : OKs D) (hf : Fr8 D M) (hp : 0 ≤ p ∧ p < D 1 7) (hq : ∀ M', Fx 9 M M' → Q (pi1 (bk D p)) M') : wp_X1_isBroken p M Q :=
  dp_isBroken hd hs hf hp (fun b M' f => by have := hq M' f; rw [pi1_t b] at this; exact this) (fun b M' f => by have := hq M' f; rw [pi1_f b] at this; exact this)
theorem pi1_b (P : Prop) : pi1 P = 0 ∨ pi1 P = 1 := by
  by_cases h : P
  · exact Or.inr (pi1_t h)
  · exact Or.inl (pi1_f h)
theorem dp_point {p w : Int} {D M : am_M} {Q : Int → am_M → Prop} {X : am_X} {c : Int} (hd : OKd c D) (hs : OKs D) (hf : Fr8 D M) (hv : NV D M) (hp : am_rg p) (hw : am_rg w)
    (x2 : ¬ (0 ≤ p ∧ p < D 1 7) → X 2 M) (x0 : 0 ≤ p ∧ p < D 1 7 → ¬ (0 ≤ w ∧ w ≤ 7) → X 0 M) (hq : 0 ≤ p ∧ p < D 1 7 → 0 ≤ w ∧ w ≤ 7 → ∀ M', Ask D M M' → Q (pq D p w) M') : wp_X5_point p w M Q X := by
  have hd' := hd
  obtain ⟨⟨n0, n1⟩, -⟩ := hd'
  refine dp_refuseNoPoint hd hf hp (fun h => dp_refuseOutside hw (by unfold am_rg; omega) (fun hw2 => ?_) (x0 h)) x2
  have H := hq h hw2
  unfold pq at H
  refine ⟨hw, fun e => dp_reasonToKeep hd hs hf h (fun M' f => ?_), fun e => ⟨by omega, ?_⟩, fun e => ⟨by omega, ?_⟩, fun e => ⟨by omega, ?_⟩, fun e => dp_broken01 hd hs hf h (fun M' f => ?_), fun e => ⟨by omega, ?_⟩, fun e => dp_earlierKept hd hs hf h ?_, fun e => dp_laterKept hd hs hf h ?_⟩
  · have := H M' (Ask_9 hv f)
    rw [if_neg (by omega), if_neg (by omega), if_neg (by omega), if_neg (by omega), if_neg (by omega), if_neg (by omega), if_neg (by omega)] at this
    exact this
  · have := H M (Ask_r hv)
    rw [if_pos e] at this
    rw [fr_2 hf]; exact this
  · have := H M (Ask_r hv)
    rw [if_neg (by omega), if_pos e] at this
    rw [fr_3 hf]; exact this
  · have := H M (Ask_r hv)
    rw [if_neg (by omega), if_neg (by omega), if_pos e] at this
    rw [fr_4 hf]; exact this
  · have := H M' (Ask_9 hv f)
    rw [if_neg (by omega), if_neg (by omega), if_neg (by omega), if_pos e] at this
    rcases pi1_b (bk D p) with z | z
    · rw [z] at this ⊢; exact ⟨by unfold am_rg; omega, fun _ => this, fun e => absurd rfl e⟩
    · rw [z] at this ⊢; exact ⟨by unfold am_rg; omega, fun e => absurd e (by omega), fun _ => this⟩
  · have := H M (Ask_r hv)
    rw [if_neg (by omega), if_neg (by omega), if_neg (by omega), if_neg (by omega), if_pos e] at this
    rw [fr_5 hf]; exact this
  · have := H M (Ask_r hv)
    rw [if_neg (by omega), if_neg (by omega), if_neg (by omega), if_neg (by omega), if_neg (by omega), if_pos e] at this
    exact this
  · have := H M (Ask_r hv)
    rw [if_neg (by omega), if_neg (by omega), if_neg (by omega), if_neg (by omega), if_neg (by omega), if_neg (by omega), if_pos e] at this
    exact this
def eqq (D : am_M) (p w : Int) : Int := if et D p < 0 then -1000000 else if w = 0 then Int.tdiv (et D p) (gd (et D p) (eb D p)) else Int.tdiv (eb D p) (gd (et D p) (eb D p))
theorem dp_error {p w : Int} {D M : am_M} {Q : Int → am_M → Prop} {X : am_X} {c : Int} (hd : OKd c D) (hs : OKs D) (hf : Fr8 D M) (hv : NV D M) (hp : am_rg p) (hw : am_rg w)
    (x2 : ¬ (0 ≤ p ∧ p < D 1 7) → X 2 M) (x0 : 0 ≤ p ∧ p < D 1 7 → ¬ (0 ≤ w ∧ w ≤ 1) → X 0 M) (hq : 0 ≤ p ∧ p < D 1 7 → 0 ≤ w ∧ w ≤ 1 → ∀ M', Ask D M M' → Q (eqq D p w) M') : wp_X5_error p w M Q X := by
  refine dp_refuseNoPoint hd hf hp (fun h => dp_refuseOutside hw (by unfold am_rg; omega) (fun hw2 => ?_) (x0 h)) x2
  have H := hq h hw2
  unfold eqq at H
  refine dp_findError hd hs hf h (fun z M' f v1 v2 => ?_) (fun z M' f => ?_)
  · have := H M' (Ask_9 hv f)
    rw [if_neg (by omega)] at this
    refine ⟨by unfold am_rg; omega, fun _ => ⟨hw, fun e => ?_, fun e => ?_⟩, fun e => absurd e (by omega)⟩
    · rw [if_neg e] at this; rw [v2]; exact this
    · rw [if_pos (by omega)] at this; rw [v1]; exact this
  · have := H M' (Ask_9 hv f)
    rw [if_pos z] at this
    exact ⟨by unfold am_rg; omega, fun e => absurd rfl e, fun _ => this⟩
def rqq (D : am_M) (t w : Int) : Int := if rdb D t = 0 then -1000000 else if w = 0 then Int.tdiv (rdt D t) (gd (rdt D t) (rdb D t)) else Int.tdiv (rdb D t) (gd (rdt D t) (rdb D t))
theorem dp_reading {t w : Int} {D M : am_M} {Q : Int → am_M → Prop} {X : am_X} {c : Int} (hd : OKd c D) (hs : OKs D) (hf : Fr8 D M) (hv : NV D M) (ht : am_rg t) (hw : am_rg w)
    (x0 : ¬ ((0 ≤ t ∧ t ≤ 9999) ∧ (0 ≤ w ∧ w ≤ 1)) → X 0 M) (hq : 0 ≤ t ∧ t ≤ 9999 → 0 ≤ w ∧ w ≤ 1 → ∀ M', Ask D M M' → Q (rqq D t w) M') : wp_X5_reading t w M Q X := by
  refine sp_isTime ht (fun h => ⟨by unfold am_rg; omega, fun _ => dp_refuseOutside hw (by unfold am_rg; omega) (fun hw2 => ?_) (fun z => x0 (fun y => z y.2)), fun e => absurd e (by omega)⟩) (fun h => ⟨by unfold am_rg; omega, fun e => absurd rfl e, fun _ => x0 (fun y => h y.1)⟩)
  have H := hq h hw2
  unfold rqq at H
  refine dp_findReading hd hs hf h (fun z M' f v1 v2 => ?_) (fun z M' f => ?_)
  · have := H M' (Ask_9 hv f)
    rw [if_neg z] at this
    refine ⟨by unfold am_rg; omega, fun _ => ⟨hw, fun e => ?_, fun e => ?_⟩, fun e => absurd e (by omega)⟩
    · rw [if_neg e] at this; rw [v2]; exact this
    · rw [if_pos (by omega)] at this; rw [v1]; exact this
  · have := H M' (Ask_9 hv f)
    rw [if_pos z] at this
    exact ⟨by unfold am_rg; omega, fun e => absurd rfl e, fun _ => this⟩
noncomputable def bm (D : am_M) (a : Int) (n : Nat) : Int := sm (fun i => pi1 (bk D (a + i))) n
theorem dp_brokenAmong {a n : Int} {D M : am_M} {Q : Int → am_M → Prop} {c : Int} (hd : OKd c D) (hs : OKs D) (hf : Fr8 D M) (hv : NV D M) (h0 : 0 ≤ n) (h1 : 0 ≤ a ∨ n = 0) (h2 : a + n ≤ D 1 7 ∨ n = 0)
    (hq : ∀ M', Ask D M M' → Q (bm D a n.toNat) M') : wp_X5_brokenAmong a n M Q := by
  have hd' := hd
  obtain ⟨⟨n0, n1⟩, -⟩ := hd'
  have loop : ∀ (r k : Nat) (M1 : am_M), (k : Int) + r = n → Fx 9 M M1 → wl_X5_brokenAmong_5 Q (r + 1) a n (bm D a k) (k : Int) M1 := by
    intro r
    induction r with
    | zero =>
      intro k M1 hk f
      refine ⟨by unfold am_rg; omega, by unfold am_rg; omega, fun _ => ?_, fun e => absurd e (by omega)⟩
      rw [show k = n.toNat by omega]
      exact hq M1 (Ask_9 hv f)
    | succ r ih =>
      intro k M1 hk f
      refine ⟨by unfold am_rg; omega, by unfold am_rg; omega, fun e => absurd e (by omega), fun _ => ?_⟩
      refine dp_broken01 hd hs (Fx_f hf (by omega) f) ⟨by omega, by omega⟩ (fun M2 f2 => ?_)
      have h := ih (k + 1) M2 (by omega) (Fx_t f f2)
      have e : bm D a (k + 1) = bm D a k + pi1 (bk D (a + (k : Int))) := rfl
      rw [e] at h
      rcases pi1_b (bk D (a + (k : Int))) with z | z
      · rw [z, Int.add_zero] at h; rw [z]; exact ⟨by unfold am_rg; omega, fun _ => h, fun e => absurd rfl e⟩
      · rw [z] at h; rw [z]; exact ⟨by unfold am_rg; omega, fun e => absurd e (by omega), fun _ => h⟩
  exact ⟨_, loop n.toNat 0 M (by omega) Fx_r⟩
