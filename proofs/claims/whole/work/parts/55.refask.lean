theorem mp_orNone {x : Int} {M : am_M} {Q : Int → am_M → Prop} (hx : -1 ≤ x ∧ x ≤ 60) (hq : Q (nn x) M) : wp_X6_orNone x M Q := by
  have h := nn_s x
  refine ⟨by unfold am_rg; omega, fun e => ?_, fun e => ?_⟩
  · rw [show nn x = x by omega] at hq; exact hq
  · rw [show nn x = -1000000 by omega] at hq; exact hq
theorem mp_aboutPoint {p w : Int} {D M : am_M} {Q : Int → am_M → Prop} {c : Int} (hd : OKd c D) (hs : OKs D) (hm : Mqr (M 70) D) (hp : 0 ≤ p ∧ p < D 1 7) (hw : 0 ≤ w ∧ w ≤ 7) (hq : ∀ M', Fq M M' → Q (pq D p w) M') : wp_X6_aboutPoint p w M Q := by
  have n1 := hd.1
  have he := ek_s (D := D) hp.1
  have hl := lk_s (D := D) hp.2
  have H := hq
  unfold pq at H
  have J : w = 5 ∨ w = 6 → wj_X6_aboutPoint_96 Q p w M := by
    intro hw5
    refine mp_neighbors hd hs hm hp (fun M1 f1 a1 b1 => ⟨by unfold am_rg; omega, fun e => ?_, fun e => ?_⟩)
    · have := H M1 f1
      rw [if_neg (by omega), if_neg (by omega), if_neg (by omega), if_neg (by omega), if_neg (by omega), if_neg (by omega), if_pos (by omega)] at this
      rw [b1]
      exact mp_orNone (by omega) this
    · have := H M1 f1
      rw [if_neg (by omega), if_neg (by omega), if_neg (by omega), if_neg (by omega), if_neg (by omega), if_pos (by omega)] at this
      rw [a1]
      exact mp_orNone (by omega) this
  refine ⟨by unfold am_rg; omega, fun e => absurd e (by omega), fun e => mp_time hd hm hp ?_, fun e => mp_value hd hm hp ?_, fun e => ⟨by omega, ?_⟩, fun e => mp_isBroken hd hs hm hp (fun M1 f1 => ?_), fun e => mp_stretchOf hd hs hm hp ?_, fun e => J (Or.inl e), fun e => J (Or.inr e), fun e => mp_against hd hs hm hp (fun M1 f1 _ => ?_)⟩
  · have := H M Fq_r
    rw [if_pos e] at this; exact this
  · have := H M Fq_r
    rw [if_neg (by omega), if_pos e] at this; exact this
  · have := H M Fq_r
    rw [if_neg (by omega), if_neg (by omega), if_pos e] at this
    rw [(hm.2.2.2.2.2.2.2.1 p hp.1 hp.2).2.2]; exact this
  · have := H M1 f1
    rw [if_neg (by omega), if_neg (by omega), if_neg (by omega), if_pos e] at this
    rcases pi1_b (bk D p) with z | z
    · rw [z] at this ⊢; exact ⟨by unfold am_rg; omega, fun _ => this, fun e => absurd rfl e⟩
    · rw [z] at this ⊢; exact ⟨by unfold am_rg; omega, fun e => absurd e (by omega), fun _ => this⟩
  · have := H M Fq_r
    rw [if_neg (by omega), if_neg (by omega), if_neg (by omega), if_neg (by omega), if_pos e] at this; exact this
  · have := H M1 f1
    rw [if_neg (by omega), if_neg (by omega), if_neg (by omega), if_neg (by omega), if_neg (by omega), if_neg (by omega), if_neg (by omega)] at this; exact this
theorem sm_add {f : Int → Int} {a : Nat} : ∀ d : Nat, sm f (a + d) = sm f a + sm (fun i => f ((a : Int) + i)) d
  | 0 => by show sm f a = sm f a + 0; omega
  | d + 1 => by
    have ih := sm_add (f := f) (a := a) d
    have e : sm f (a + (d + 1)) = sm f (a + d) + f ((a + d : Nat) : Int) := rfl
    rw [e, ih, sm_s, show ((a + d : Nat) : Int) = (a : Int) + (d : Int) by omega]
    omega
theorem sm_0 {f : Int → Int} (n : Nat) (h : ∀ i, 0 ≤ i → i < (n : Int) → f i = 0) : sm f n = 0 := by
  have := sm_z (g := f) (a := 0) n (fun i i0 i1 => h i (by omega) (by omega))
  rw [show 0 + n = n by omega] at this
  rw [this]; rfl
theorem sm_one : ∀ (n : Nat), sm (fun _ => 1) n = (n : Int)
  | 0 => rfl
  | n + 1 => by rw [sm_s, sm_one n]; omega
/-- a stretch's own sums -/
theorem st_sum {D : am_M} (hs : OKs D) {f l : Int} (h0 : 0 ≤ f) (h1 : f ≤ l) (h2 : l < D 1 7) (h5 : D 5 l = D 5 f) (hb : bs D f) (he : es D l) (g : Int → Int) : sm (fun i => if D 5 i = D 5 f then g i else 0) (D 1 7).toNat = sm (fun i => g (f + i)) (l + 1 - f).toNat := by
  have e1 := sm_add (f := fun i => if D 5 i = D 5 f then g i else 0) (a := (l + 1).toNat) (D 1 7 - (l + 1)).toNat
  have e2 := sm_add (f := fun i => if D 5 i = D 5 f then g i else 0) (a := f.toNat) (l + 1 - f).toNat
  rw [show (l + 1).toNat + (D 1 7 - (l + 1)).toNat = (D 1 7).toNat by omega] at e1
  rw [show f.toNat + (l + 1 - f).toNat = (l + 1).toNat by omega] at e2
  rw [e1, e2]
  have z1 : sm (fun i => if D 5 i = D 5 f then g i else 0) f.toNat = 0 := sm_0 _ (fun i i0 i1 => if_neg (fun z => bs_no hs i0 hb (show i < f by omega) (by omega) z))
  have z2 : sm (fun i => (fun i => if D 5 i = D 5 f then g i else 0) (((l + 1).toNat : Int) + i)) (D 1 7 - (l + 1)).toNat = 0 := sm_0 _ (fun i i0 i1 => if_neg (fun z => es_no hs (by omega) he (show l < ((l + 1).toNat : Int) + i by omega) (by omega) (by rw [h5]; exact z.symm)))
  have z3 : sm (fun i => (fun i => if D 5 i = D 5 f then g i else 0) ((f.toNat : Int) + i)) (l + 1 - f).toNat = sm (fun i => g (f + i)) (l + 1 - f).toNat := sm_cg _ (fun i i0 i1 => by
    show (if D 5 ((f.toNat : Int) + i) = D 5 f then g ((f.toNat : Int) + i) else 0) = g (f + i)
    rw [show ((f.toNat : Nat) : Int) + i = f + i by omega, if_pos]
    exact st_eq hs h0 (by omega) (show f + i ≤ l by omega) h2 h5.symm)
  rw [z1, z2, z3]
  omega
theorem mp_aboutStretch {s w : Int} {D M : am_M} {Q : Int → am_M → Prop} {c : Int} (hd : OKd c D) (hs : OKs D) (hm : Mqr (M 70) D) (h : 0 ≤ s ∧ s < cs D) (hw : 0 ≤ w ∧ w ≤ 4) (hq : ∀ M', Fq M M' → Q (sq D s w) M') : wp_X6_aboutStretch s w M Q := by
  have n1 := hd.1
  have ho := hd.2.2.2.1
  obtain ⟨f0, f1, f2, f3, -⟩ := fo_in hd hs h
  have hnn : nn (fo D s) = fo D s := by unfold nn; rw [if_neg (by omega)]
  have hb : bs D (fo D s) := by
    unfold bs
    by_cases z : fo D s = 0
    · exact Or.inl z
    · exact Or.inr (fun y => f3 (fo D s - 1) (by omega) (by omega) (by omega))
  have H := hq
  unfold sq at H
  rw [hnn] at H
  refine mp_firstOf hd hs hm h (mp_lastWith hd hs hm ⟨f0, f1⟩ (fun l l0 l1 l5 le => ?_))
  have es1 : so D s = l + 1 - fo D s := by
    have := st_sum hs f0 l0 l1 l5 hb le (fun _ => 1)
    rw [f2] at this
    have e : so D s = sm (fun i => if D 5 i = s then 1 else 0) (D 1 7).toNat := rfl
    rw [e, this, sm_one]
    omega
  have es2 : ko D s = sm (fun i => D 4 (fo D s + i)) (l + 1 - fo D s).toNat := by
    have := st_sum hs f0 l0 l1 l5 hb le (fun i => D 4 i)
    rw [f2] at this
    rw [← this]
    unfold ko
    refine sm_cg _ (fun i i0 i1 => ?_)
    have hk := OKd_k hd i0 (by omega : i < D 1 7)
    by_cases z : D 5 i = s
    · by_cases y : D 4 i = 1
      · rw [if_pos ⟨z, y⟩, if_pos z]; omega
      · rw [if_neg (fun x => y x.2), if_pos z]; omega
    · rw [if_neg (fun x => z x.1), if_neg z]
  refine ⟨by unfold am_rg; omega, fun e => ?_, fun e => ?_⟩
  · have loop : ∀ (r k : Nat) (M1 : am_M), fo D s + (k : Int) + r = l + 1 → Fq M M1 → wl_X6_aboutStretch_47 Q (r + 1) w (fo D s) l (sm (fun i => D 4 (fo D s + i)) k) (bm D (fo D s) k) (fo D s + (k : Int)) M1 := by
      intro r
      induction r with
      | zero =>
        intro k M1 hk f
        have ek : (l + 1 - fo D s).toNat = k := by omega
        rw [ek] at es2
        have := H M1 f
        rw [show (so D s).toNat = k by omega] at this
        refine ⟨by unfold am_rg; omega, by unfold am_rg; omega, fun _ => ⟨by unfold am_rg; omega, fun w0 => ⟨by unfold am_rg; omega, fun w1 => ⟨by unfold am_rg; omega, fun w2 => ?_, fun w2 => ?_⟩, fun w1 => ?_⟩, fun w0 => ?_⟩, fun z => absurd (by omega) z⟩
        · rw [if_neg w0, if_neg w1, if_neg w2, if_pos (by omega)] at this; exact this
        · rw [if_neg w0, if_neg w1, if_pos (by omega), es2] at this; exact this
        · rw [if_neg w0, if_pos (by omega), es1] at this; exact this
        · rw [if_pos (by omega)] at this; exact this
      | succ r ih =>
        intro k M1 hk f
        have hm1 := Fq_m hm f
        have pk : 0 ≤ fo D s + (k : Int) ∧ fo D s + (k : Int) < D 1 7 := ⟨by omega, by omega⟩
        refine ⟨by unfold am_rg; omega, by unfold am_rg; omega, fun z => absurd z (by omega), fun _ => ⟨by omega, ?_⟩⟩
        rw [(hm1.2.2.2.2.2.2.2.1 _ pk.1 pk.2).2.2]
        refine mp_isBroken hd hs hm1 pk (fun M2 f2' => ?_)
        have hh := ih (k + 1) M2 (by omega) (Fq_t f f2')
        have eb : bm D (fo D s) (k + 1) = bm D (fo D s) k + pi1 (bk D (fo D s + (k : Int))) := rfl
        rw [sm_s, eb, show fo D s + ((k + 1 : Nat) : Int) = fo D s + (k : Int) + 1 by omega] at hh
        rcases pi1_b (bk D (fo D s + (k : Int))) with z | z
        · rw [z] at hh ⊢; exact ⟨by unfold am_rg; omega, fun _ => hh, fun e => absurd rfl e⟩
        · rw [z] at hh ⊢; exact ⟨by unfold am_rg; omega, fun e => absurd e (by omega), fun _ => hh⟩
    have hl := loop (l + 1 - fo D s).toNat 0 M (by omega) Fq_r
    rw [show fo D s + ((0 : Nat) : Int) = fo D s by omega] at hl
    exact ⟨_, hl⟩
  · rw [hm.2.2.2.2.1]
    refine mp_few hd hs hm (by omega) f0 l0 l1 l5.symm le (fun M3 f3' g1 _ => ⟨by omega, ?_⟩)
    have := H M3 ⟨fun k k1 k2 => f3' k (by omega) (by omega), fun j hj => by rw [f3' 69 (by omega) (by omega)]⟩
    rw [if_neg (by omega), if_neg (by omega), if_neg (by omega), if_neg (by omega)] at this
    unfold fwo at this
    rw [if_neg (by omega)] at this
    rw [g1 _ (Int.le_refl _) l0]
    exact this
theorem mp_aboutNote {k w : Int} {D M : am_M} {Q : Int → am_M → Prop} {c : Int} (hd : OKd c D) (hs : OKs D) (hm : Mqr (M 70) D) (hk : 0 ≤ k ∧ k < D 1 8) (hw : 0 ≤ w ∧ w ≤ 2) (hq : ∀ M', Fq M M' → Q (nq D k w) M') : wp_X6_aboutNote k w M Q := by
  have h8 := hd.2.2.2.2.2.2.1
  obtain ⟨m1, m2⟩ := hm.2.2.2.2.2.2.2.2 k hk.1 hk.2
  have H := hq
  unfold nq at H
  refine ⟨by unfold am_rg; omega, fun e => ⟨by omega, ?_⟩, fun e => mp_isTrueNote hd hs hm hk (fun M1 f1 => ?_)⟩
  · have := H M Fq_r
    by_cases z : w = 0
    · rw [if_pos z] at this
      rw [z, Int.add_zero, m1]; exact this
    · rw [if_neg z, if_pos (by omega)] at this
      rw [show w = 1 by omega, m2]; exact this
  · have := H M1 f1
    rw [if_neg (by omega), if_neg (by omega)] at this
    rcases pi1_b (tn D (D 7 k) (D 8 k)) with z | z
    · rw [z] at this ⊢; exact ⟨by unfold am_rg; omega, fun _ => this, fun e => absurd rfl e⟩
    · rw [z] at this ⊢; exact ⟨by unfold am_rg; omega, fun e => absurd e (by omega), fun _ => this⟩
theorem mp_brokenMany {D M : am_M} {Q : Int → am_M → Prop} {c : Int} (hd : OKd c D) (hs : OKs D) (hm : Mqr (M 70) D) (hq : ∀ M', Fq M M' → Q (bm D 0 (D 1 7).toNat) M') : wp_X6_brokenMany M Q := by
  have n1 := hd.1
  have loop : ∀ (r k : Nat) (M1 : am_M), (k : Int) + r = D 1 7 → Fq M M1 → wl_X6_brokenMany_4 Q (r + 1) (bm D 0 k) (k : Int) M1 := by
    intro r
    induction r with
    | zero =>
      intro k M1 hk f
      rw [wl_X6_brokenMany_4, (Fq_m hm f).1]
      refine ⟨by unfold am_rg; omega, by unfold am_rg; omega, fun _ => ?_, fun e => absurd (by omega) e⟩
      rw [show k = (D 1 7).toNat by omega]
      exact hq M1 f
    | succ r ih =>
      intro k M1 hk f
      have hm1 := Fq_m hm f
      rw [wl_X6_brokenMany_4, hm1.1]
      refine ⟨by unfold am_rg; omega, by unfold am_rg; omega, fun e => absurd e (by omega), fun _ => mp_isBroken hd hs hm1 ⟨by omega, by omega⟩ (fun M2 f2 => ?_)⟩
      have h := ih (k + 1) M2 (by omega) (Fq_t f f2)
      have eb : bm D 0 (k + 1) = bm D 0 k + pi1 (bk D (0 + (k : Int))) := rfl
      rw [eb, Int.zero_add] at h
      rcases pi1_b (bk D (k : Int)) with z | z
      · rw [z] at h ⊢; exact ⟨by unfold am_rg; omega, fun _ => h, fun e => absurd rfl e⟩
      · rw [z] at h ⊢; exact ⟨by unfold am_rg; omega, fun e => absurd e (by omega), fun _ => h⟩
  exact ⟨_, loop (D 1 7).toNat 0 M (by omega) Fq_r⟩
theorem mp_trueMany {D M : am_M} {Q : Int → am_M → Prop} {c : Int} (hd : OKd c D) (hs : OKs D) (hm : Mqr (M 70) D) (hq : ∀ M', Fq M M' → Q (tnm D (D 1 8).toNat) M') : wp_X6_trueMany M Q := by
  have h8 := hd.2.2.2.2.2.2.1
  have loop : ∀ (r k : Nat) (M1 : am_M), (k : Int) + r = D 1 8 → Fq M M1 → wl_X6_trueMany_4 Q (r + 1) (tnm D k) (k : Int) M1 := by
    intro r
    induction r with
    | zero =>
      intro k M1 hk f
      rw [wl_X6_trueMany_4, (Fq_m hm f).2.1]
      refine ⟨by unfold am_rg; omega, by unfold am_rg; omega, fun _ => ?_, fun e => absurd (by omega) e⟩
      rw [show k = (D 1 8).toNat by omega]
      exact hq M1 f
    | succ r ih =>
      intro k M1 hk f
      have hm1 := Fq_m hm f
      rw [wl_X6_trueMany_4, hm1.2.1]
      refine ⟨by unfold am_rg; omega, by unfold am_rg; omega, fun e => absurd e (by omega), fun _ => mp_isTrueNote hd hs hm1 ⟨by omega, by omega⟩ (fun M2 f2 => ?_)⟩
      have h := ih (k + 1) M2 (by omega) (Fq_t f f2)
      have eb : tnm D (k + 1) = tnm D k + pi1 (tn D (D 7 (k : Int)) (D 8 (k : Int))) := rfl
      rw [eb] at h
      rcases pi1_b (tn D (D 7 (k : Int)) (D 8 (k : Int))) with z | z
      · rw [z] at h ⊢; exact ⟨by unfold am_rg; omega, fun _ => h, fun e => absurd rfl e⟩
      · rw [z] at h ⊢; exact ⟨by unfold am_rg; omega, fun e => absurd e (by omega), fun _ => h⟩
  exact ⟨_, loop (D 1 8).toNat 0 M (by omega) Fq_r⟩
theorem mp_greatestError {D M : am_M} {Q : Int → am_M → Prop} {c : Int} (hd : OKd c D) (hs : OKs D) (hm : Mqr (M 70) D) (hq : ∀ M', Fq M M' → Q (gE D (D 1 7).toNat) M') : wp_X6_greatestError M Q := by
  have n1 := hd.1
  have loop : ∀ (r k : Nat) (M1 : am_M), (k : Int) + r = D 1 7 → Fq M M1 → wl_X6_greatestError_4 Q (r + 1) (gE D k) (k : Int) M1 := by
    intro r
    induction r with
    | zero =>
      intro k M1 hk f
      rw [wl_X6_greatestError_4, (Fq_m hm f).1]
      refine ⟨by unfold am_rg; omega, by unfold am_rg; omega, fun _ => ?_, fun e => absurd (by omega) e⟩
      rw [show k = (D 1 7).toNat by omega]
      exact hq M1 f
    | succ r ih =>
      intro k M1 hk f
      have hm1 := Fq_m hm f
      have hp : 0 ≤ (k : Int) ∧ (k : Int) < D 1 7 := ⟨by omega, by omega⟩
      have hgE := gE_b hd k (by omega)
      have hgu := gu_b hd hp
      have es : gE D (k + 1) = if gE D k < gu D (k : Int) then gu D (k : Int) else gE D k := rfl
      have last : ∀ M2, Fq M M2 → wj_X6_greatestError_62 Q (wl_X6_greatestError_4 Q (r + 1)) (gE D k) (k : Int) (gu D (k : Int)) M2 := by
        intro M2 f2
        have h := ih (k + 1) M2 (by omega) f2
        rw [es] at h
        refine ⟨by unfold am_rg; omega, by unfold am_rg; omega, fun e => ?_, fun e => ?_⟩
        · rw [if_neg (by omega)] at h; exact h
        · rw [if_pos (by omega)] at h; exact h
      rw [wl_X6_greatestError_4, hm1.1]
      refine ⟨by unfold am_rg; omega, by unfold am_rg; omega, fun e => absurd e (by omega), fun _ => ?_⟩
      refine mp_isKept hd hm1 hp (fun y => ⟨by unfold am_rg; omega, fun e => absurd e (by omega), fun _ => ⟨by unfold am_rg; omega, fun e => absurd e (by omega), fun _ => ?_⟩⟩) (fun y => ⟨by unfold am_rg; omega, fun _ => ?_, fun e => absurd rfl e⟩)
      · have eg : gu D (k : Int) = 0 := by unfold gu; rw [if_pos (Or.inl y)]
        have := last M1 f
        rw [eg] at this
        exact this
      · obtain ⟨e1, e2⟩ := ra_all hd hs hp
        have hb := ee_b hd hp
        refine mp_time hd hm1 hp (mp_value hd hm1 hp (mp_farFrom hd hs hm1 (OKd_t hd hp.1 hp.2) (OKd_v hd hp.1 hp.2) (fun M2 f2 a2 => ?_)))
        have := last M2 (Fq_t f f2)
        rw [e1] at a2
        rw [e2]
        unfold wj_X6_greatestError_40
        rw [a2]
        refine ⟨by unfold am_rg; omega, fun e => ⟨⟨by unfold am_rg; omega, by unfold am_rg; omega, by omega⟩, ?_⟩, fun e => ?_⟩
        · have eg : gu D (k : Int) = Int.tdiv (et D (k : Int) + eb D (k : Int) - 1) (eb D (k : Int)) := by unfold gu; rw [if_neg (by omega)]
          rw [eg] at this
          exact this
        · have eg : gu D (k : Int) = 0 := by unfold gu; rw [if_pos (Or.inr (by omega))]
          rw [eg] at this
          exact this
  exact ⟨_, loop (D 1 7).toNat 0 M (by omega) Fq_r⟩
def gS (D : am_M) : Nat → Int
  | 0 => 0
  | i + 1 => if D 4 (i : Int) = 1 ∧ lk D (i : Int) ≠ -1 then (if gS D i < D 2 (lk D (i : Int)) - D 2 (i : Int) then D 2 (lk D (i : Int)) - D 2 (i : Int) else gS D i) else gS D i
theorem lS_le {D : am_M} {x : Int} (hx : 0 ≤ x) : ∀ k : Nat, lS D k ≤ x ↔ ∀ i, 0 ≤ i → i < (k : Int) → D 4 i = 1 → ek D i ≠ -1 → D 2 i - D 2 (ek D i) ≤ x
  | 0 => ⟨fun _ i i0 i1 => by omega, fun _ => hx⟩
  | k + 1 => by
    have ih := lS_le (D := D) hx k
    unfold lS
    constructor
    · intro h i i0 i1 a b
      by_cases z : i = (k : Int)
      · rw [z] at a b ⊢
        rw [if_pos ⟨a, b⟩] at h
        split at h <;> omega
      · refine ih.mp ?_ i i0 (by omega) a b
        split at h
        · split at h <;> omega
        · exact h
    · intro h
      have h1 := ih.mpr (fun i i0 i1 => h i i0 (by omega))
      split
      next e =>
        have := h (k : Int) (by omega) (by omega) e.1 e.2
        split <;> omega
      next => exact h1
theorem gS_le {D : am_M} {x : Int} (hx : 0 ≤ x) : ∀ k : Nat, gS D k ≤ x ↔ ∀ i, 0 ≤ i → i < (k : Int) → D 4 i = 1 → lk D i ≠ -1 → D 2 (lk D i) - D 2 i ≤ x
  | 0 => ⟨fun _ i i0 i1 => by omega, fun _ => hx⟩
  | k + 1 => by
    have ih := gS_le (D := D) hx k
    unfold gS
    constructor
    · intro h i i0 i1 a b
      by_cases z : i = (k : Int)
      · rw [z] at a b ⊢
        rw [if_pos ⟨a, b⟩] at h
        split at h <;> omega
      · refine ih.mp ?_ i i0 (by omega) a b
        split at h
        · split at h <;> omega
        · exact h
    · intro h
      have h1 := ih.mpr (fun i i0 i1 => h i i0 (by omega))
      split
      next e =>
        have := h (k : Int) (by omega) (by omega) e.1 e.2
        split <;> omega
      next => exact h1
theorem ek_lk {D : am_M} {i : Int} (hi : 0 ≤ i ∧ i < D 1 7) (hk : D 4 i = 1) (he : ek D i ≠ -1) : lk D (ek D i) = i ∧ D 4 (ek D i) = 1 ∧ 0 ≤ ek D i ∧ ek D i < i := by
  have h := ek_s (D := D) hi.1
  have g := kb_s D i.toNat
  rcases h with h | ⟨h1, h2, h3, h4, h5⟩
  · exact absurd h he
  · refine ⟨?_, h3, h1, h2⟩
    have k := kf_s D (D 1 7) (D 1 7 - (ek D i + 1)).toNat
    rw [show D 1 7 - (((D 1 7 - (ek D i + 1)).toNat : Nat) : Int) = ek D i + 1 by omega] at k
    have no : ∀ j, ek D i < j → j < i → D 4 j ≠ 1 := by
      intro j j0 j1
      rcases g with ⟨g1, -⟩ | ⟨-, -, -, g4⟩
      · omega
      · exact g4 j (by omega) (by omega)
    have ef : kf D (D 1 7) (D 1 7 - (ek D i + 1)).toNat = i := by
      rcases k with ⟨-, k2⟩ | ⟨k1, k2, k3, k4⟩
      · exact absurd hk (k2 i (by omega) hi.2)
      · by_cases z : kf D (D 1 7) (D 1 7 - (ek D i + 1)).toNat < i
        · exact absurd k3 (no _ (by omega) z)
        · by_cases y : i < kf D (D 1 7) (D 1 7 - (ek D i + 1)).toNat
          · exact absurd hk (k4 i (by omega) y)
          · omega
    unfold lk
    rw [ef, if_pos ⟨by omega, h4⟩]
theorem lk_ek {D : am_M} {i : Int} (hi : 0 ≤ i ∧ i < D 1 7) (hk : D 4 i = 1) (he : lk D i ≠ -1) : ek D (lk D i) = i ∧ D 4 (lk D i) = 1 ∧ i < lk D i ∧ lk D i < D 1 7 := by
  have h := lk_s (D := D) hi.2
  have g := kf_s D (D 1 7) (D 1 7 - (i + 1)).toNat
  rw [show D 1 7 - (((D 1 7 - (i + 1)).toNat : Nat) : Int) = i + 1 by omega] at g
  rcases h with h | ⟨h1, h2, h3, h4, h5⟩
  · exact absurd h he
  · refine ⟨?_, h3, h1, h2⟩
    have k := kb_s D (lk D i).toNat
    have no : ∀ j, i < j → j < lk D i → D 4 j ≠ 1 := by
      intro j j0 j1
      rcases g with ⟨g1, -⟩ | ⟨-, -, -, g4⟩
      · omega
      · exact g4 j (by omega) (by omega)
    have ef : kb D (lk D i).toNat = i := by
      rcases k with ⟨-, k2⟩ | ⟨k1, k2, k3, k4⟩
      · exact absurd hk (k2 i hi.1 (by omega))
      · by_cases z : kb D (lk D i).toNat < i
        · exact absurd hk (k4 i z (by omega))
        · by_cases y : i < kb D (lk D i).toNat
          · exact absurd k3 (no _ y (by omega))
          · omega
    unfold ek
    rw [ef, if_pos ⟨by omega, h4⟩]
theorem gS_b {c : Int} {D : am_M} (hd : OKd c D) : ∀ i : Nat, (i : Int) ≤ D 1 7 → 0 ≤ gS D i ∧ gS D i ≤ 9999
  | 0, _ => by unfold gS; omega
  | i + 1, h => by
    have ih := gS_b hd i (by omega)
    unfold gS
    by_cases z : D 4 (i : Int) = 1 ∧ lk D (i : Int) ≠ -1
    · rw [if_pos z]
      have he := lk_s (D := D) (a := (i : Int)) (by omega)
      have t1 := OKd_t hd (i := (i : Int)) (by omega) (by omega)
      have t2 := OKd_t hd (i := lk D (i : Int)) (by omega) (by omega)
      split <;> omega
    · rw [if_neg z]; exact ih
theorem gS_lS {c : Int} {D : am_M} (hd : OKd c D) : gS D (D 1 7).toNat = lS D (D 1 7).toNat := by
  have n1 := hd.1
  have b1 := gS_b hd (D 1 7).toNat (by omega)
  have b2 := lS_b hd (D 1 7).toNat (by omega)
  refine Int.le_antisymm ((gS_le b2.1 _).mpr (fun i i0 i1 a b => ?_)) ((lS_le b1.1 _).mpr (fun i i0 i1 a b => ?_))
  · have h := lk_ek ⟨i0, by omega⟩ a b
    have := (lS_le b2.1 _).mp (Int.le_refl _) (lk D i) (by omega) (by omega) h.2.1 (by rw [h.1]; omega)
    rw [h.1] at this
    exact this
  · have h := ek_lk ⟨i0, by omega⟩ a b
    have := (gS_le b1.1 _).mp (Int.le_refl _) (ek D i) (by omega) (by omega) h.2.1 (by rw [h.1]; omega)
    rw [h.1] at this
    exact this
theorem mp_greatestStep {D M : am_M} {Q : Int → am_M → Prop} {c : Int} (hd : OKd c D) (hs : OKs D) (hm : Mqr (M 70) D) (hq : ∀ M', Fq M M' → Q (lS D (D 1 7).toNat) M') : wp_X6_greatestStep M Q := by
  have n1 := hd.1
  have loop : ∀ (r k : Nat) (M1 : am_M), (k : Int) + r = D 1 7 → Fq M M1 → wl_X6_greatestStep_4 Q (r + 1) (gS D k) (k : Int) M1 := by
    intro r
    induction r with
    | zero =>
      intro k M1 hk f
      rw [wl_X6_greatestStep_4, (Fq_m hm f).1]
      refine ⟨by unfold am_rg; omega, by unfold am_rg; omega, fun _ => ?_, fun e => absurd (by omega) e⟩
      rw [show k = (D 1 7).toNat by omega, gS_lS hd]
      exact hq M1 f
    | succ r ih =>
      intro k M1 hk f
      have hm1 := Fq_m hm f
      have hp : 0 ≤ (k : Int) ∧ (k : Int) < D 1 7 := ⟨by omega, by omega⟩
      have hg := gS_b hd k (by omega)
      have hl := lk_s (D := D) hp.2
      have tk := OKd_t hd hp.1 hp.2
      have es : gS D (k + 1) = if D 4 (k : Int) = 1 ∧ lk D (k : Int) ≠ -1 then (if gS D k < D 2 (lk D (k : Int)) - D 2 (k : Int) then D 2 (lk D (k : Int)) - D 2 (k : Int) else gS D k) else gS D k := rfl
      have none : ∀ M2, Fq M M2 → ¬ (D 4 (k : Int) = 1 ∧ lk D (k : Int) ≠ -1) → wj_X6_greatestStep_51 Q (wl_X6_greatestStep_4 Q (r + 1)) (gS D k) (k : Int) M2 := by
        intro M2 f2 z
        have h := ih (k + 1) M2 (by omega) f2
        rw [es, if_neg z] at h
        exact ⟨by unfold am_rg; omega, by unfold am_rg; omega, fun _ => h, fun e => absurd hg.1 e⟩
      rw [wl_X6_greatestStep_4, hm1.1]
      refine ⟨by unfold am_rg; omega, by unfold am_rg; omega, fun e => absurd e (by omega), fun _ => mp_neighbors hd hs hm1 hp (fun M2 f2 a2 b2 => ?_)⟩
      have f2' := Fq_t f f2
      have hm2 := Fq_m hm f2'
      refine mp_isKept hd hm2 hp (fun y => ⟨by unfold am_rg; omega, fun e => absurd e (by omega), fun _ => ?_⟩) (fun y => ⟨by unfold am_rg; omega, fun _ => none M2 f2' (fun z => y z.1), fun e => absurd rfl e⟩)
      rw [b2]
      refine ⟨by unfold am_rg; omega, fun e => none M2 f2' (fun z => by omega), fun e => ?_⟩
      have t2 := OKd_t hd (i := lk D (k : Int)) (by omega) (by omega)
      refine mp_time hd hm2 ⟨by omega, by omega⟩ (mp_time hd hm2 hp ?_)
      have h := ih (k + 1) M2 (by omega) f2'
      rw [es, if_pos ⟨y, by omega⟩] at h
      refine ⟨by unfold am_rg; omega, by unfold am_rg; omega, fun e => ?_, fun e => ?_⟩
      · rw [if_neg (by omega)] at h; exact h
      · rw [if_pos (by omega)] at h; exact h
  exact ⟨_, loop (D 1 7).toNat 0 M (by omega) Fq_r⟩
theorem mp_number {w : Int} {D M : am_M} {Q : Int → am_M → Prop} {c : Int} (hd : OKd c D) (hs : OKs D) (hm : Mqr (M 70) D) (hw : 0 ≤ w ∧ w ≤ 10) (hq : ∀ M', Fq M M' → Q (cq D (M 69 2) w) M') : wp_X6_number w M Q := by
  have H := hq
  unfold cq at H
  refine ⟨by unfold am_rg; omega, fun e => ?_, fun e => ?_, fun e => mp_keptMany hd hm ?_, fun e => mp_brokenMany hd hs hm (fun M' f => ?_), fun e => mp_stretches hd hs hm ?_, fun e => ?_, fun e => mp_trueMany hd hs hm (fun M' f => ?_), fun e => mp_greatestError hd hs hm (fun M' f => ?_), fun e => ?_, fun e => ?_, fun e => mp_greatestStep hd hs hm (fun M' f => ?_)⟩
  · have := H M Fq_r
    rw [if_neg (by omega), if_neg (by omega), if_neg (by omega), if_neg (by omega), if_neg (by omega), if_neg (by omega), if_neg (by omega), if_neg (by omega), if_neg (by omega), if_neg (by omega)] at this
    exact this
  · have := H M Fq_r
    rw [if_pos e] at this
    rw [hm.1]; exact this
  · have := H M Fq_r
    rw [if_neg (by omega), if_pos e] at this; exact this
  · have := H M' f
    rw [if_neg (by omega), if_neg (by omega), if_pos e] at this; exact this
  · have := H M Fq_r
    rw [if_neg (by omega), if_neg (by omega), if_neg (by omega), if_pos e] at this; exact this
  · have := H M Fq_r
    rw [if_neg (by omega), if_neg (by omega), if_neg (by omega), if_neg (by omega), if_pos e] at this
    rw [hm.2.1]; exact this
  · have := H M' f
    rw [if_neg (by omega), if_neg (by omega), if_neg (by omega), if_neg (by omega), if_neg (by omega), if_pos e] at this; exact this
  · have := H M' f
    rw [if_neg (by omega), if_neg (by omega), if_neg (by omega), if_neg (by omega), if_neg (by omega), if_neg (by omega), if_pos e] at this; exact this
  · have := H M Fq_r
    rw [if_neg (by omega), if_neg (by omega), if_neg (by omega), if_neg (by omega), if_neg (by omega), if_neg (by omega), if_neg (by omega), if_pos e] at this
    rw [hm.2.2.1]; exact this
  · have := H M Fq_r
    rw [if_neg (by omega), if_neg (by omega), if_neg (by omega), if_neg (by omega), if_neg (by omega), if_neg (by omega), if_neg (by omega), if_neg (by omega), if_pos e] at this
    rw [hm.2.2.2.1]; exact this
  · have := H M' f
    rw [if_neg (by omega), if_neg (by omega), if_neg (by omega), if_neg (by omega), if_neg (by omega), if_neg (by omega), if_neg (by omega), if_neg (by omega), if_neg (by omega), if_pos e] at this; exact this
