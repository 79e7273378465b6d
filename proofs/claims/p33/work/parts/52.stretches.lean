/-! the stretches, one behind the other -/
theorem kc_sm {D : am_M} : ∀ m : Nat, kc D m = sm (D 4) m
  | 0 => rfl
  | m + 1 => by
    show kc D m + D 4 (m : Int) = sm (D 4) m + D 4 (m : Int)
    rw [kc_sm m]
/-- a sum that counts between two places alone -/
theorem sm_int {F G : Int → Int} {f g : Nat} (hfg : f ≤ g) : ∀ m : Nat, (∀ i, 0 ≤ i → i < (m : Int) → (i < (f : Int) → F i = 0) ∧ ((f : Int) ≤ i → i < (g : Int) → F i = G i) ∧ ((g : Int) ≤ i → F i = 0)) →
    (m ≤ f → sm F m = 0) ∧ (f ≤ m → m ≤ g → sm F m = sm G m - sm G f) ∧ (g ≤ m → sm F m = sm G g - sm G f)
  | 0, _ => by
    refine ⟨fun _ => rfl, fun h _ => ?_, fun h => ?_⟩
    · have : f = 0 := by omega
      subst this
      show (0 : Int) = sm G 0 - sm G 0
      omega
    · have : f = 0 := by omega
      subst this
      have : g = 0 := by omega
      subst this
      show (0 : Int) = sm G 0 - sm G 0
      omega
  | m + 1, h => by
    obtain ⟨i1, i2, i3⟩ := sm_int (F := F) (G := G) hfg m (fun i i0 i1 => h i i0 (by omega))
    obtain ⟨h1, h2, h3⟩ := h (m : Int) (by omega) (by omega)
    have eF : sm F (m + 1) = sm F m + F (m : Int) := rfl
    have eG : sm G (m + 1) = sm G m + G (m : Int) := rfl
    refine ⟨fun a => ?_, fun a b => ?_, fun a => ?_⟩
    · rw [eF, i1 (by omega), h1 (by omega)]; rfl
    · by_cases z : f = m + 1
      · subst z
        rw [eF, i1 (by omega), h1 (by omega)]; omega
      · rw [eF, eG, i2 (by omega) (by omega), h2 (by omega) (by omega)]; omega
    · by_cases z : g = m + 1
      · subst z
        by_cases y : f = m + 1
        · subst y
          rw [eF, i1 (by omega), h1 (by omega)]; omega
        · rw [eF, eG, i2 (by omega) (by omega), h2 (by omega) (by omega)]; omega
      · rw [eF, i3 (by omega), h3 (by omega)]; omega
theorem sm_one : ∀ m : Nat, sm (fun _ => 1) m = (m : Int)
  | 0 => rfl
  | m + 1 => by
    show sm (fun _ => 1) m + 1 = ((m + 1 : Nat) : Int)
    rw [sm_one m]; omega
theorem sm_sh {G : Int → Int} {f : Nat} : ∀ m : Nat, sm (fun i => G ((f : Int) + i)) m = sm G (f + m) - sm G f
  | 0 => by show (0 : Int) = sm G f - sm G f; omega
  | m + 1 => by
    show sm (fun i => G ((f : Int) + i)) m + G ((f : Int) + (m : Int)) = sm G (f + m) + G ((f + m : Nat) : Int) - sm G f
    rw [sm_sh m, show ((f + m : Nat) : Int) = (f : Int) + (m : Int) by omega]; omega
/-- from f on stretch k: all ahead are of lesser ones, all behind of this or greater ones -/
def sI (D : am_M) (k : Int) (f : Nat) : Prop := (f : Int) ≤ D 1 7 ∧ (∀ i, 0 ≤ i → i < (f : Int) → D 5 i < k) ∧ ∀ i, (f : Int) ≤ i → i < D 1 7 → k ≤ D 5 i
theorem sI_0 {D : am_M} (hd : 0 ≤ D 1 7) (hs : OKs D) : sI D 0 0 := ⟨by omega, fun i a b => by omega, fun i a b => (OKs_b hs (by omega) b).1⟩
theorem sI_end {c : Int} {D : am_M} (hd : OKd c D) (hs : OKs D) {f : Nat} (h : sI D (cs D) f) : (f : Int) = D 1 7 := by
  have n := hd.1
  obtain ⟨h1, h2, h3⟩ := h
  by_cases z : (f : Int) < D 1 7
  · have a := h3 f (Int.le_refl _) z
    have b := st_m hs (i := (f : Int)) (j := D 1 7 - 1) (by omega) (by omega) (by omega)
    unfold cs at a
    rw [if_neg (by omega)] at a
    omega
  · omega
theorem sI_g {D : am_M} (hs : OKs D) {k : Int} {f : Nat} : ∀ (r g : Nat), (g : Int) + r = D 1 7 → f < g → (∀ i, (f : Int) ≤ i → i < (g : Int) → D 5 i = k) → ∃ g' : Nat, f < g' ∧ (g' : Int) ≤ D 1 7 ∧ (∀ i, (f : Int) ≤ i → i < (g' : Int) → D 5 i = k) ∧ ∀ i, (g' : Int) ≤ i → i < D 1 7 → k + 1 ≤ D 5 i
  | 0, g, h, hg, hk => ⟨g, hg, by omega, hk, fun i a b => by omega⟩
  | r + 1, g, h, hg, hk => by
    by_cases z : D 5 (g : Int) = k
    · refine sI_g hs r (g + 1) (by omega) (by omega) (fun i a b => ?_)
      by_cases y : i = (g : Int)
      · rw [y]; exact z
      · exact hk i a (by omega)
    · refine ⟨g, hg, by omega, hk, fun i a b => ?_⟩
      have e := hk (f : Int) (Int.le_refl _) (by omega)
      have m1 := st_m hs (i := (f : Int)) (j := (g : Int)) (by omega) (by omega) (by omega)
      have m2 := st_m hs (i := (g : Int)) (j := i) (by omega) (by omega) b
      omega
/-- a stretch is what stands from its first place to the next one's -/
theorem sI_s {c : Int} {D : am_M} (hd : OKd c D) (hs : OKs D) {k : Int} {f : Nat} (h : sI D k f) (hk : 0 ≤ k ∧ k < cs D) :
    ∃ g : Nat, f < g ∧ (g : Int) ≤ D 1 7 ∧ (∀ i, (f : Int) ≤ i → i < (g : Int) → D 5 i = k) ∧ sI D (k + 1) g ∧ fo D k = (f : Int) ∧ so D k = (g : Int) - (f : Int) ∧ ko D k = kc D g - kc D f ∧ bm D (f : Int) (g - f) = bm D 0 g - bm D 0 f ∧ fwo D k ≤ (g : Int) - (f : Int) := by
  have n := hd.1
  have hd' := hd
  obtain ⟨-, h2d, -, o1, -⟩ := hd'
  obtain ⟨h1, h2, h3⟩ := h
  have hfo := fo_in hd hs hk
  obtain ⟨f1, f2, f3, f4, -⟩ := hfo
  have e : fo D k = (f : Int) := by
    by_cases z : fo D k < (f : Int)
    · have := h2 _ f1 z; omega
    · by_cases y : (f : Int) < fo D k
      · have a := h3 (f : Int) (Int.le_refl _) (by omega)
        have b := st_m hs (i := (f : Int)) (j := fo D k) (by omega) (by omega) f2
        have := f4 (f : Int) (by omega) y
        omega
      · omega
  rw [e] at f2 f3
  obtain ⟨g, g1, g2, g3, g4⟩ := sI_g hs (k := k) (f := f) (D 1 7 - ((f : Int) + 1)).toNat (f + 1) (by omega) (by omega) (fun i a b => by rw [show i = (f : Int) by omega]; exact f3)
  refine ⟨g, g1, g2, g3, ⟨g2, fun i a b => ?_, g4⟩, e, ?_, ?_, ?_, ?_⟩
  · by_cases z : i < (f : Int)
    · have := h2 i a z; omega
    · have := g3 i (by omega) b; omega
  · have := (sm_int (F := fun i => if D 5 i = k then 1 else 0) (G := fun _ => 1) (f := f) (g := g) (by omega) (D 1 7).toNat (fun i a b => ⟨fun z => if_neg (by have := h2 i a z; omega), fun z y => if_pos (g3 i z y), fun z => if_neg (by have := g4 i z (by omega); omega)⟩)).2.2 (by omega)
    rw [sm_one, sm_one] at this
    exact this
  · have := (sm_int (F := fun i => if D 5 i = k ∧ D 4 i = 1 then 1 else 0) (G := D 4) (f := f) (g := g) (by omega) (D 1 7).toNat (fun i a b => ⟨fun z => if_neg (fun w => by have := h2 i a z; omega), fun z y => ?_, fun z => if_neg (fun w => by have := g4 i z (by omega); omega)⟩)).2.2 (by omega)
    · rw [← kc_sm, ← kc_sm] at this
      exact this
    · show (if D 5 i = k ∧ D 4 i = 1 then (1 : Int) else 0) = D 4 i
      have := (h2d i a (by omega)).2.2
      by_cases w : D 4 i = 1
      · rw [if_pos ⟨g3 i z y, w⟩, w]
      · rw [if_neg (fun v => w v.2)]; omega
  · have e1 : ∀ m, bm D 0 m = sm (fun i => pi1 (bk D i)) m := fun m => sm_cg m (fun i _ _ => by rw [Int.zero_add])
    have e2 : bm D (f : Int) (g - f) = sm (fun i => pi1 (bk D i)) (f + (g - f)) - sm (fun i => pi1 (bk D i)) f := sm_sh (G := fun i => pi1 (bk D i)) (g - f)
    rw [e1, e1, e2, show f + (g - f) = g by omega]
  · unfold fwo
    rw [e, if_neg (by omega)]
    have len : ∀ (r : Nat) (i : Int), (g : Int) - i ≤ r → (f : Int) ≤ i → i < (g : Int) → fw D (D 6 0) i ≤ (g : Int) - i := by
      intro r
      induction r with
      | zero => intro i a b d; omega
      | succ r ih =>
        intro i a b d
        have hF := fw_s D (D 6 0) i (by omega) (by omega)
        rcases hF with ⟨-, e1⟩ | ⟨j, hj, e1, hmin⟩
        · omega
        · by_cases z : i + 1 < (g : Int)
          · have := hmin (i + 1) (jo_adj hd (by omega) (by omega) (by rw [g3 i b d, g3 (i + 1) (by omega) z]) o1.1)
            have := ih (i + 1) (by omega) (by omega) z
            omega
          · obtain ⟨j1, j2, j3, -⟩ := hj
            have := g3 i b d
            have := g4 j (by omega) j2
            omega
    exact len (g - f) (f : Int) (by omega) (Int.le_refl _) (by omega)
theorem sq_0 {D : am_M} {k : Int} : sq D k 0 = nn (fo D k) := by unfold sq; rw [if_pos rfl]
theorem sq_1 {D : am_M} {k : Int} : sq D k 1 = so D k := by unfold sq; rw [if_neg (by omega), if_pos rfl]
theorem sq_2 {D : am_M} {k : Int} : sq D k 2 = ko D k := by unfold sq; rw [if_neg (by omega), if_neg (by omega), if_pos rfl]
theorem sq_3 {D : am_M} {k : Int} : sq D k 3 = bm D (nn (fo D k)) (so D k).toNat := by unfold sq; rw [if_neg (by omega), if_neg (by omega), if_neg (by omega), if_pos rfl]
theorem sq_4 {D : am_M} {k : Int} : sq D k 4 = fwo D k := by unfold sq; rw [if_neg (by omega), if_neg (by omega), if_neg (by omega), if_neg (by omega)]
theorem nn_p {x : Int} (h : x ≠ -1) : nn x = x := by unfold nn; rw [if_neg h]
theorem lp_stretches {D M : am_M} {Q : Int → am_M → Prop} {X : am_X} {c : Int} (hd : OKd c D) (hs : OKs D) (a : Ask D D M) (hq : ∀ M', Ask D D M' → Q 1 M') : wp_L_stretches M Q X := by
  have n := hd.1
  have hd' := hd
  obtain ⟨-, h2d, hinc, o1, o2, -⟩ := hd'
  have hcs := cs_b hd hs
  have kb1 := kc_b hd (D 1 7).toNat (by omega)
  have bb1 := bm_b D 0 (D 1 7).toNat
  have fin : ∀ (M1 : am_M) (f : Int), Ask D D M1 → f = D 1 7 → wj_L_stretches_221 Q X f (kc D f.toNat) (bm D 0 f.toNat) 1 M1 := by
    intro M1 f a1 hf
    subst hf
    refine ⟨by unfold am_rg; omega, fun e => absurd e (by omega), fun _ => q_count hd hs a1 (by omega) (fun M2 a2 => ?_)⟩
    rw [cq_0]
    refine ⟨by unfold am_rg; omega, by unfold am_rg; omega, fun e => absurd rfl e, fun _ => q_count hd hs a2 (by omega) (fun M3 a3 => ?_)⟩
    rw [cq_1]
    refine ⟨by unfold am_rg; omega, by unfold am_rg; omega, fun e => absurd rfl e, fun _ => q_count hd hs a3 (by omega) (fun M4 a4 => ?_)⟩
    rw [cq_2]
    exact ⟨by unfold am_rg; omega, by unfold am_rg; omega, fun e => absurd rfl e, fun _ => hq M4 a4⟩
  have inner : ∀ (K : Int → Int → Int → Int → Int → am_M → Prop) (k : Int) (f g : Nat) (v2 v3 : Int), 0 ≤ k ∧ k < cs D → f < g → (g : Int) ≤ D 1 7 → (∀ i, (f : Int) ≤ i → i < (g : Int) → D 5 i = k) → (∀ M1, Ask D D M1 → wj_L_stretches_190 Q X K (f : Int) v2 v3 1 k ((g : Int) - (f : Int)) M1) →
      ∀ (r : Nat) (p : Nat) (M1 : am_M), p + r = g → f ≤ p → Ask D D M1 → wl_L_stretches_101 Q X K (r + 1) (f : Int) v2 v3 1 k ((g : Int) - (f : Int)) (p : Int) M1 := by
    intro K k f g v2 v3 hk hfg hg hst kk r
    induction r with
    | zero =>
      intro p M1 hp hfp a1
      exact ⟨by unfold am_rg; omega, by unfold am_rg; omega, fun _ => kk M1 a1, fun e => absurd (by omega) e⟩
    | succ r ih =>
      intro p M1 hp hfp a1
      refine ⟨by unfold am_rg; omega, by unfold am_rg; omega, fun e => absurd e (by omega), fun _ => ⟨by unfold am_rg; omega, fun e => absurd e (by omega), fun _ => ?_⟩⟩
      refine q_point hd hs a1 (by omega) (by omega) (fun M2 a2 => ?_)
      rw [pq_4, hst p (by omega) (by omega)]
      refine ⟨by unfold am_rg; omega, by unfold am_rg; omega, fun e => absurd rfl e, fun _ => ⟨by unfold am_rg; omega, by unfold am_rg; omega, fun e => ih (p + 1) M2 (by omega) (by omega) a2, fun e => ?_⟩⟩
      refine q_point hd hs a2 (by omega) (by omega) (fun M3 a3 => q_point hd hs a3 (by omega) (by omega) (fun M4 a4 => q_setting a4 (by omega) ?_))
      rw [pq_0, pq_0]
      have t1 := h2d (p : Int) (by omega) (by omega)
      have t2 := h2d ((p : Int) - 1) (by omega) (by omega)
      have t3 := hinc ((p : Int) - 1) p (by omega) (by omega) (by omega)
      have t4 := st_step hs (i := (p : Int) - 1) (by omega) (by omega)
      rw [show (p : Int) - 1 + 1 = (p : Int) by omega, hst p (by omega) (by omega), hst ((p : Int) - 1) (by omega) (by omega)] at t4
      have t5 : ¬ D 6 1 < D 2 (p : Int) - D 2 ((p : Int) - 1) := fun z => by rw [if_pos z] at t4; omega
      refine ⟨by unfold am_rg; omega, by unfold am_rg; omega, fun e => absurd e t5, fun _ => ?_⟩
      refine q_point hd hs a4 (by omega) (by omega) (fun M5 a5 => q_point hd hs a5 (by omega) (by omega) (fun M6 a6 => ?_))
      rw [pq_0, pq_0]
      exact ⟨by unfold am_rg; omega, by unfold am_rg; omega, fun e => absurd e (by omega), fun _ => ih (p + 1) M6 (by omega) (by omega) a6⟩
  have outer : ∀ (r k f : Nat) (M1 : am_M), (k : Int) + r = cs D → sI D (k : Int) f → Ask D D M1 → wl_L_stretches_12 Q X (r + 1) (f : Int) (kc D f) (bm D 0 f) 1 (k : Int) M1 := by
    intro r
    induction r with
    | zero =>
      intro k f M1 hk hI a1
      rw [show (k : Int) = cs D by omega] at hI
      have hf := sI_end hd hs hI
      refine q_count hd hs a1 (by omega) (fun M2 a2 => ?_)
      rw [cq_3]
      have := fin M2 (f : Int) a2 hf
      rw [Int.toNat_natCast] at this
      exact ⟨by unfold am_rg; omega, by unfold am_rg; omega, fun _ => this, fun e => absurd (by omega) e⟩
    | succ r ih =>
      intro k f M1 hk hI a1
      obtain ⟨g, g1, g2, g3, g4, g5, g6, g7, g8, g9⟩ := sI_s hd hs hI (by omega)
      refine q_count hd hs a1 (by omega) (fun M2 a2 => ?_)
      rw [cq_3]
      refine ⟨by unfold am_rg; omega, by unfold am_rg; omega, fun e => absurd e (by omega), fun _ => ⟨by unfold am_rg; omega, fun e => absurd e (by omega), fun _ => ?_⟩⟩
      refine q_stretch hd hs a2 (by omega) (by omega) (fun M3 a3 => q_stretch hd hs a3 (by omega) (by omega) (fun M4 a4 => ?_))
      rw [sq_1, sq_0, g5, g6, nn_p (by omega)]
      have hin := inner (wl_L_stretches_12 Q X (r + 1)) (k : Int) f g (kc D f) (bm D 0 f) (by omega) g1 g2 g3 (fun M5 a5 => by
        refine q_stretch hd hs a5 (by omega) (by omega) (fun M6 a6 => q_stretch hd hs a6 (by omega) (by omega) (fun M7 a7 => ?_))
        rw [sq_2, sq_3, g5, g6, g7, nn_p (by omega), show ((g : Int) - (f : Int)).toNat = g - f by omega, g8, show (f : Int) + ((g : Int) - (f : Int)) = (g : Int) by omega, show kc D f + (kc D g - kc D f) = kc D g by omega, show bm D 0 f + (bm D 0 g - bm D 0 f) = bm D 0 g by omega]
        exact ih (k + 1) g M7 (by omega) g4 a7)
      have go : ∀ M5, Ask D D M5 → ∃ e, wl_L_stretches_101 Q X (wl_L_stretches_12 Q X (r + 1)) e (f : Int) (kc D f) (bm D 0 f) 1 (k : Int) ((g : Int) - (f : Int)) (f : Int) M5 := fun M5 a5 => ⟨_, hin (g - f) f M5 (by omega) (Nat.le_refl _) a5⟩
      refine ⟨by unfold am_rg; omega, by unfold am_rg; omega, fun e => absurd rfl e, fun _ => ⟨by unfold am_rg; omega, fun e => absurd e (by omega), fun _ => ?_⟩⟩
      refine q_stretch hd hs a4 (by omega) (by omega) (fun M5 a5 => ?_)
      rw [sq_4]
      have fb := fwo_b hd (k : Int)
      refine ⟨by unfold am_rg; omega, by unfold am_rg; omega, fun e => absurd e (by omega), fun _ => ⟨by unfold am_rg; omega, fun _ => go M5 a5, fun e => ?_⟩⟩
      refine q_point hd hs a5 (by omega) (by omega) (fun M6 a6 => q_point hd hs a6 (by omega) (by omega) (fun M7 a7 => q_setting a7 (by omega) ?_))
      rw [pq_0, pq_0]
      have t1 := h2d (f : Int) (by omega) (by omega)
      have t2 := h2d ((f : Int) - 1) (by omega) (by omega)
      have t4 := st_step hs (i := (f : Int) - 1) (by omega) (by omega)
      have t6 := hI.2.1 ((f : Int) - 1) (by omega) (by omega)
      rw [show (f : Int) - 1 + 1 = (f : Int) by omega, g3 f (by omega) (by omega)] at t4
      have t5 : D 6 1 < D 2 (f : Int) - D 2 ((f : Int) - 1) := by
        refine Classical.byContradiction (fun z => ?_)
        rw [if_neg z] at t4
        omega
      exact ⟨by unfold am_rg; omega, by unfold am_rg; omega, fun e => absurd e (by omega), fun _ => go M7 a7⟩
  exact ⟨_, outer (cs D).toNat 0 0 M (by omega) (sI_0 n.1 hs) a⟩
