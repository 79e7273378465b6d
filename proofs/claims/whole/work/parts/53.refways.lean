/-! the reference's ways -/
theorem fw_last {D : am_M} (hs : OKs D) {o l : Int} (h0 : 0 ≤ l) (h1 : l < D 1 7) (he : es D l) : fw D o l = 1 := by
  rcases fw_s D o l h0 h1 with ⟨-, h⟩ | ⟨k, g, -⟩
  · exact h
  · exact absurd g.2.2.1 (es_no hs h0 he g.1 g.2.1)
def FI (D : am_M) (o a b v x : Int) : Prop := (v = 61 ∧ ∀ k, k < b → ¬ jo D o a k) ∨ ((a < x ∧ x < b) ∧ jo D o a x ∧ v = 1 + fw D o x ∧ (∀ k, k < b → jo D o a k → v ≤ 1 + fw D o k) ∧ ∀ k, x < k → k < b → jo D o a k → v < 1 + fw D o k)
theorem mp_few {f l o : Int} {D M : am_M} {Q : am_M → Prop} {c : Int} (hd : OKd c D) (hs : OKs D) (hm : Mqr (M 70) D) (ho : 0 ≤ o ∧ o ≤ 600) (h0 : 0 ≤ f) (h1 : f ≤ l) (h2 : l < D 1 7) (h5 : D 5 f = D 5 l) (he : es D l)
    (hq : ∀ M', (∀ k, k ≠ 76 → k ≠ 77 → M' k = M k) → (∀ i, f ≤ i → i ≤ l → M' 76 i = fw D o i) → (∀ i, f ≤ i → i < l → jl D 2 o i (M' 77 i)) → Q M') : wp_X6_few f l o M Q := by
  have n1 := hd.1
  have s5 : ∀ k, f ≤ k → k ≤ l → D 5 k = D 5 f := fun k k0 k1 => st_eq hs h0 k0 k1 h2 h5
  have inner : ∀ (k12 : Int → Int → Int → Int → am_M → Prop) (a : Int), f ≤ a → a < l → (∀ M2, (∀ k, k ≠ 76 → k ≠ 77 → M2 k = M k) → (∀ i, a ≤ i → i ≤ l → M2 76 i = fw D o i) → (∀ i, a ≤ i → i < l → jl D 2 o i (M2 77 i)) → k12 f l o (a + (-1)) M2) → ∀ (r : Nat) (b : Int) (M1 : am_M), a < b → b + r = l + 1 → (∀ k, k ≠ 76 → k ≠ 77 → M1 k = M k) → (∀ i, a < i → i ≤ l → M1 76 i = fw D o i) → (∀ i, a < i → i < l → jl D 2 o i (M1 77 i)) → FI D o a b (M1 76 a) (M1 77 a) → wl_X6_few_33 Q k12 (r + 1) f l o a b M1 := by
    intro k12 a a0 a1 hk r
    have far : ∀ k, l < k → ¬ jo D o a k := fun k k0 z => es_no hs (by omega) he k0 z.2.1 (by rw [← z.2.2.1, s5 a a0 (by omega), s5 l h1 (Int.le_refl _)])
    have adj : jo D o a (a + 1) := jo_adj hd (by omega) (by omega) (by rw [s5 a a0 (by omega), s5 (a + 1) (by omega) (by omega)]) ho.1
    induction r with
    | zero =>
      intro b M1 hb hr fr g1 g2 inv
      refine ⟨by unfold am_rg; omega, by unfold am_rg; omega, fun _ => ?_, fun e => absurd (by omega) e⟩
      rcases inv with ⟨-, no⟩ | ⟨hx, jx, ev, le, lt⟩
      · exact absurd adj (no _ (by omega))
      · have ea : M1 76 a = fw D o a := by
          rcases fw_s D o a (by omega) (by omega) with ⟨no, -⟩ | ⟨k, y1, y2, y3⟩
          · exact absurd adj (no _)
          · have z1 := y3 _ jx
            have z2 : M1 76 a ≤ 1 + fw D o k := by
              by_cases z : k < b
              · exact le k z y1
              · exact absurd y1 (far k (by omega))
            omega
        refine hk M1 fr (fun i i0 i1 => ?_) (fun i i0 i1 => ?_)
        · by_cases z : i = a
          · rw [z]; exact ea
          · exact g1 i (by omega) i1
        · by_cases z : i = a
          · rw [z]
            refine ⟨⟨jx, Or.inr (by omega)⟩, fun k k0 y => ?_⟩
            have yy := y.2
            by_cases w : k < b
            · have := lt k k0 w y.1
              omega
            · exact far k (by omega) y.1
          · exact g2 i (by omega) i1
    | succ r ih =>
      intro b M1 hb hr fr g1 g2 inv
      have eb := g1 b hb (by omega)
      have bb := fw_b (D := D) (o := o) (i := b) (by omega) (by omega)
      have va : 1 ≤ M1 76 a ∧ M1 76 a ≤ 61 := by
        rcases inv with ⟨z, -⟩ | ⟨hx, jx, ev, -, -⟩
        · omega
        · have := fw_b (D := D) (o := o) (i := M1 77 a) (by omega) (by omega); omega
      rw [wl_X6_few_33, eb]
      refine ⟨by unfold am_rg; omega, by unfold am_rg; omega, fun e => absurd e (by omega), fun _ => ⟨by omega, by omega, by unfold am_rg; omega, by unfold am_rg; omega, fun e => ?_, fun e => ?_⟩⟩
      · refine ih (b + 1) M1 (by omega) (by omega) fr g1 g2 ?_
        rcases inv with ⟨z, no⟩ | ⟨hx, jx, ev, le, lt⟩
        · omega
        · refine Or.inr ⟨⟨hx.1, by omega⟩, jx, ev, fun k k0 y => ?_, fun k k0 k1 y => ?_⟩
          · by_cases z : k = b
            · rw [z]; omega
            · exact le k (by omega) y
          · by_cases z : k = b
            · rw [z]; omega
            · exact lt k k0 (by omega) y
      · have hm1 : Mqr (M1 70) D := by rw [fr 70 (by omega) (by omega)]; exact hm
        refine mp_canJoin hd hm1 ho (by omega) hb (by omega) (fun j => ⟨by unfold am_rg; omega, fun e => absurd e (by omega), fun _ => ⟨by omega, by omega, by omega, ?_⟩⟩) (fun j => ⟨by unfold am_rg; omega, fun _ => ?_, fun e => absurd rfl e⟩)
        · have jb : jo D o a b := ⟨hb, by omega, by rw [s5 a a0 (by omega), s5 b (by omega) (by omega)], j⟩
          rw [eb]
          refine ih (b + 1) _ (by omega) (by omega) (fun k k6 k7 => by rw [am_up_r k7, am_up_r k6]; exact fr k k6 k7) (fun i i0 i1 => ?_) (fun i i0 i1 => ?_) ?_
          · rw [am_up_r (by omega), am_up_n (by omega)]; exact g1 i i0 i1
          · rw [am_up_n (by omega), am_up_r (by omega)]; exact g2 i i0 i1
          · rw [am_up_r (by omega), am_up_s, am_up_s]
            refine Or.inr ⟨⟨hb, by omega⟩, jb, rfl, fun k k0 y => ?_, fun k k0 k1 y => by omega⟩
            by_cases z : k = b
            · rw [z]; exact Int.le_refl _
            · rcases inv with ⟨-, no⟩ | ⟨hx, jx, ev, le, lt⟩
              · exact absurd y (no k (by omega))
              · have := le k (by omega) y; omega
        · have nj : ¬ jo D o a b := fun y => j y.2.2.2
          refine ih (b + 1) M1 (by omega) (by omega) fr g1 g2 ?_
          rcases inv with ⟨z, no⟩ | ⟨hx, jx, ev, le, lt⟩
          · refine Or.inl ⟨z, fun k k0 y => ?_⟩
            by_cases w : k = b
            · rw [w] at y; exact nj y
            · exact no k (by omega) y
          · refine Or.inr ⟨⟨hx.1, by omega⟩, jx, ev, fun k k0 y => ?_, fun k k0 k1 y => ?_⟩
            · by_cases w : k = b
              · rw [w] at y; exact absurd y nj
              · exact le k (by omega) y
            · by_cases w : k = b
              · rw [w] at y; exact absurd y nj
              · exact lt k k0 (by omega) y
  have outer : ∀ (r : Nat) (a : Int) (M1 : am_M), a + 1 = f + r → a < l → (∀ k, k ≠ 76 → k ≠ 77 → M1 k = M k) → (∀ i, a < i → i ≤ l → M1 76 i = fw D o i) → (∀ i, a < i → i < l → jl D 2 o i (M1 77 i)) → wl_X6_few_12 Q (r + 1) f l o a M1 := by
    intro r
    induction r with
    | zero =>
      intro a M1 ha al fr g1 g2
      exact ⟨by unfold am_rg; omega, by unfold am_rg; omega, fun _ => hq M1 fr (fun i i0 i1 => g1 i (by omega) i1) (fun i i0 i1 => g2 i (by omega) i1), fun e => absurd (by omega) e⟩
    | succ r ih =>
      intro a M1 ha al fr g1 g2
      refine ⟨by unfold am_rg; omega, by unfold am_rg; omega, fun e => absurd e (by omega), fun _ => ⟨by omega, _, inner _ a (by omega) al (fun M2 f2 x1 x2 => ih (a + (-1)) M2 (by omega) (by omega) f2 (fun i i0 i1 => x1 i (by omega) i1) (fun i i0 i1 => x2 i (by omega) i1)) (l - a).toNat (a + 1) (am_up M1 76 a 61) (by omega) (by omega) (fun k k6 k7 => by rw [am_up_r k6]; exact fr k k6 k7) (fun i i0 i1 => by rw [am_up_n (by omega)]; exact g1 i i0 i1) (fun i i0 i1 => by rw [am_up_r (by omega)]; exact g2 i i0 i1) ?_⟩⟩
      rw [am_up_s]
      exact Or.inl ⟨rfl, fun k k0 z => by have := z.1; omega⟩
  refine ⟨by omega, _, outer (l - f).toNat (l - 1) (am_up M 76 l 1) (by omega) (by omega) (fun k k6 _ => am_up_r k6) (fun i i0 i1 => ?_) (fun i i0 i1 => by omega)⟩
  rw [show i = l by omega, am_up_s]
  exact (fw_last hs (by omega) h2 he).symm
theorem sm_z {g : Int → Int} {a : Nat} : ∀ d : Nat, (∀ i, (a : Int) ≤ i → i < ((a + d : Nat) : Int) → g i = 0) → sm g (a + d) = sm g a
  | 0, _ => rfl
  | d + 1, h => by
    have ih := sm_z d (fun i i0 i1 => h i i0 (by omega))
    have e : sm g (a + (d + 1)) = sm g (a + d) + g ((a + d : Nat) : Int) := rfl
    rw [e, ih, h _ (by omega) (by omega)]
    omega
theorem fwS_step {D : am_M} (hs : OKs D) {o p l : Int} (h0 : 0 ≤ p) (h1 : p ≤ l) (h2 : l < D 1 7) (h5 : D 5 p = D 5 l) (hb : bs D p) : sm (fun i => if i = 0 ∨ D 5 (i - 1) ≠ D 5 i then fw D o i else 0) (l + 1).toNat = sm (fun i => if i = 0 ∨ D 5 (i - 1) ≠ D 5 i then fw D o i else 0) p.toNat + fw D o p := by
  have h := sm_z (g := fun i => if i = 0 ∨ D 5 (i - 1) ≠ D 5 i then fw D o i else 0) (a := p.toNat + 1) (l - p).toNat (fun i i0 i1 => by
    have e1 := st_eq hs (i := p) (k := i) (j := l) h0 (by omega) (by omega) h2 h5
    have e2 := st_eq hs (i := p) (k := i - 1) (j := l) h0 (by omega) (by omega) h2 h5
    exact if_neg (by omega))
  rw [show p.toNat + 1 + (l - p).toNat = (l + 1).toNat by omega] at h
  rw [h, sm_s]
  have e : ((p.toNat : Nat) : Int) = p := by omega
  simp only [e]
  unfold bs at hb
  rw [if_pos hb]
theorem mp_fewestBy {o : Int} {D M : am_M} {Q : Int → am_M → Prop} {c : Int} (hd : OKd c D) (hs : OKs D) (hm : Mqr (M 70) D) (ho : 0 ≤ o ∧ o ≤ 600) (hq : ∀ M', Fq M M' → Q (fwS D o) M') : wp_X6_fewestBy o M Q := by
  have n1 := hd.1
  have loop : ∀ (r : Nat) (p : Int) (M1 : am_M), 0 ≤ p → p ≤ D 1 7 → D 1 7 - p ≤ r → (p < D 1 7 → bs D p) → Fq M M1 → wl_X6_fewestBy_4 Q (r + 1) o (sm (fun i => if i = 0 ∨ D 5 (i - 1) ≠ D 5 i then fw D o i else 0) p.toNat) p M1 := by
    intro r
    induction r with
    | zero =>
      intro p M1 p0 p1 hr hb f
      rw [wl_X6_fewestBy_4, (Fq_m hm f).1]
      refine ⟨by unfold am_rg; omega, by unfold am_rg; omega, fun _ => ?_, fun e => absurd (by omega) e⟩
      rw [show p = D 1 7 by omega]
      exact hq M1 f
    | succ r ih =>
      intro p M1 p0 p1 hr hb f
      have hm1 := Fq_m hm f
      rw [wl_X6_fewestBy_4, hm1.1]
      refine ⟨by unfold am_rg; omega, by unfold am_rg; omega, fun e => ?_, fun e => ?_⟩
      · rw [show p = D 1 7 by omega]
        exact hq M1 f
      · refine mp_lastWith hd hs hm1 ⟨p0, by omega⟩ (fun l l0 l1 l5 le => ?_)
        refine mp_few hd hs hm1 ho p0 l0 l1 l5.symm le (fun M2 f2 g1 _ => ⟨by omega, ?_⟩)
        rw [g1 p (Int.le_refl _) l0, ← fwS_step hs p0 l0 l1 l5.symm (hb (by omega))]
        refine ih (l + 1) M2 (by omega) (by omega) (by omega) (fun z => ?_) (Fq_t f ⟨fun k k1 k2 => f2 k (by omega) (by omega), fun j hj => by rw [f2 69 (by omega) (by omega)]⟩)
        unfold bs es at *
        rw [show l + 1 - 1 = l by omega]
        omega
  exact ⟨_, loop (D 1 7).toNat 0 M (Int.le_refl _) n1.1 (by omega) (fun _ => Or.inl rfl) Fq_r⟩
theorem mp_oathFor {m : Int} {D M : am_M} {Q : Int → am_M → Prop} {c : Int} (hd : OKd c D) (hs : OKs D) (hm : Mqr (M 70) D) (hm2 : 0 ≤ m ∧ m ≤ 60) (hq : ∀ M', Fq M M' → Q (lo D m) M') : wp_X6_oathFor m M Q := by
  have b5 := fwS_b hd 500
  refine mp_fewestBy hd hs hm (by omega) (fun M1 f1 => ⟨by unfold am_rg; omega, by unfold am_rg; omega, fun e => ?_, fun e => ?_⟩)
  · have loop : ∀ (r : Nat) (a b : Int) (M2 : am_M), 0 ≤ a → a ≤ b → b ≤ 500 → b - a ≤ r → (∀ x, 0 ≤ x → x < a → m < fwS D x) → fwS D b ≤ m → Fq M M2 → wl_X6_oathFor_20 Q (r + 1) m a b M2 := by
      intro r
      induction r with
      | zero =>
        intro a b M2 a0 ab b1 hr lo1 hi f
        refine ⟨by unfold am_rg; omega, by unfold am_rg; omega, fun _ => ?_, fun e => absurd (by omega) e⟩
        have eb : b = a := by omega
        rw [eb] at hi
        have h := hq M2 f
        rw [lo_u a0 (by omega) lo1 hi] at h
        exact h
      | succ r ih =>
        intro a b M2 a0 ab b1 hr lo1 hi f
        refine ⟨by unfold am_rg; omega, by unfold am_rg; omega, fun e => ?_, fun e => ⟨⟨by unfold am_rg; omega, by unfold am_rg; omega, by omega⟩, ?_⟩⟩
        · have eb : b = a := by omega
          rw [eb] at hi
          have h := hq M2 f
          rw [lo_u a0 (by omega) lo1 hi] at h
          exact h
        · have et : Int.tdiv (a + b) 2 = (a + b) / 2 := Int.tdiv_eq_ediv_of_nonneg (by omega)
          rw [et]
          have bS := fwS_b hd ((a + b) / 2)
          refine mp_fewestBy hd hs (Fq_m hm f) (by omega) (fun M3 f3 => ⟨by unfold am_rg; omega, by unfold am_rg; omega, fun e2 => ?_, fun e2 => ?_⟩)
          · refine ih _ b M3 (by omega) (by omega) b1 (by omega) (fun x x0 x1 => ?_) hi (Fq_t f f3)
            have := fwS_mono hd hs x0 (show x ≤ (a + b) / 2 by omega)
            omega
          · exact ih a _ M3 a0 (by omega) (by omega) (by omega) lo1 (by omega) (Fq_t f f3)
    exact ⟨_, loop 500 0 500 M1 (by omega) (by omega) (by omega) (by omega) (fun x x0 x1 => by omega) e f1⟩
  · have h := hq M1 f1
    rw [lo_n (fun x x0 x1 => by have := fwS_mono hd hs x0 x1; omega)] at h
    exact h
theorem wi_mx {c : Int} {D : am_M} (hd : OKd c D) {a b : Int} (h0 : 0 ≤ a) (h1 : a < b) (h2 : b < D 1 7) : ∀ m : Nat, a + 1 + ((m + 1 : Nat) : Int) ≤ b → sp_mx D a b (m + 1) = sp_mi D a b (sp_wi D a b (m + 1))
  | 0, hm => by
    have hk := mi_b hd h0 h1 h2 (k := a + 1 + ((0 : Nat) : Int)) (by omega) (by omega)
    rw [mx_s, wi_s]
    have e : sp_mx D a b 0 = -1 := rfl
    rw [e, if_pos (by omega), if_pos (by omega)]
  | m + 1, hm => by
    have ih := wi_mx hd h0 h1 h2 m (by omega)
    rw [mx_s, wi_s]
    by_cases z : sp_mx D a b (m + 1) < sp_mi D a b (a + 1 + ((m + 1 : Nat) : Int))
    · rw [if_pos z, if_pos z]
    · rw [if_neg z, if_neg z]; exact ih
theorem mp_worst {a b : Int} {D M : am_M} {Q : Int → am_M → Prop} {c : Int} (hd : OKd c D) (hm : Mqr (M 70) D) (h0 : 0 ≤ a) (h1 : a + 1 < b) (h2 : b < D 1 7) (hq : Q (wst D a b) M) : wp_X6_worst a b M Q := by
  have n1 := hd.1
  have loop : ∀ (r m : Nat), a + 1 + ((m + 1 : Nat) : Int) + r = b → wl_X6_worst_9 Q (r + 1) a b (sp_wi D a b (m + 1)) (a + 1 + ((m + 1 : Nat) : Int)) M := by
    intro r
    induction r with
    | zero =>
      intro m hr
      refine ⟨by unfold am_rg; omega, by unfold am_rg; omega, fun _ => ?_, fun e => absurd (by omega) e⟩
      rw [show m + 1 = (b - a - 1).toNat by omega]
      exact hq
    | succ r ih =>
      intro m hr
      have h := ih (m + 1) (by omega)
      rw [wi_s, show a + 1 + ((m + 1 + 1 : Nat) : Int) = a + 1 + ((m + 1 : Nat) : Int) + 1 by omega, wi_mx hd h0 (by omega) h2 m (by omega)] at h
      have hw := wi_b hd h0 (show a < b by omega) h2 (m + 1) (by omega)
      have pk : 0 ≤ a + 1 + ((m + 1 : Nat) : Int) ∧ a + 1 + ((m + 1 : Nat) : Int) < D 1 7 := ⟨by omega, by omega⟩
      have pw : 0 ≤ sp_wi D a b (m + 1) ∧ sp_wi D a b (m + 1) < D 1 7 := by omega
      have b1 := mi_b hd h0 (show a < b by omega) h2 pk.1 pk.2
      have b2 := mi_b hd h0 (show a < b by omega) h2 pw.1 pw.2
      refine ⟨by unfold am_rg; omega, by unfold am_rg; omega, fun e => absurd e (by omega), fun _ => ?_⟩
      refine mp_time hd hm pk (mp_value hd hm pk (mp_off hd hm h0 (by omega) h2 pk (mp_time hd hm pw (mp_value hd hm pw (mp_off hd hm h0 (by omega) h2 pw ⟨by unfold am_rg; omega, by unfold am_rg; omega, fun e => ?_, fun e => ?_⟩)))))
      · rw [if_neg (by omega)] at h; exact h
      · rw [if_pos (by omega)] at h; exact h
  have h := loop (b - a - 2).toNat 0 (by omega)
  have hk := mi_b hd h0 (show a < b by omega) h2 (k := a + 1 + ((0 : Nat) : Int)) (by omega) (by omega)
  have e : sp_wi D a b (0 + 1) = a + 1 := by
    rw [wi_s]
    have e0 : sp_mx D a b 0 = -1 := rfl
    rw [e0, if_pos (by omega)]
    omega
  rw [e, show a + 1 + ((0 + 1 : Nat) : Int) = a + 2 by omega] at h
  exact ⟨_, h⟩
theorem pi1_c {P R : Prop} (h : P ↔ R) : pi1 P = pi1 R := by
  by_cases z : P
  · rw [pi1_t z, pi1_t (h.mp z)]
  · rw [pi1_f z, pi1_f (fun y => z (h.mpr y))]
theorem ch_gap {D : am_M} (hs : OKs D) {way o : Int} (n0 : 0 ≤ D 1 7) : ∀ (r : Nat) (k p x : Int), k ≤ r → ch D way o p → jl D way o p x → p < k → k < x → ch D way o k → False
  | 0, k, p, x, hr, hp, hx, h1, h2, hk => by have := ch_r n0 hp; omega
  | r + 1, k, p, x, hr, hp, hx, h1, h2, hk => by
    have rp := ch_r n0 hp
    have xj := hx.1.1
    rcases ch_i hk with b | ⟨i, hi, hj⟩
    · have e := st_eq hs (i := p) (k := k) (j := x) rp.1 (by omega) (by omega) xj.2.1 xj.2.2.1
      exact bs_no hs rp.1 b h1 (by have := xj.2.1; omega) e.symm
    · have ij := hj.1.1.1
      by_cases z : i = p
      · rw [z] at hj
        have := jl_u hj hx
        omega
      · by_cases y : p < i
        · exact ch_gap hs n0 r i p x (by omega) hp hx y (by omega) hi
        · exact ch_gap hs n0 r p i k (by omega) hi hj (by omega) h1 hp
def CI (D : am_M) (way o f l p : Int) (c : Int → Int) : Prop := (f ≤ p ∧ p ≤ l) ∧ ch D way o p ∧ (∀ k, f ≤ k → k ≤ p → c k = pi1 (ch D way o k)) ∧ (∀ k, p < k → k ≤ l → c k = 0)
theorem CI_s {D : am_M} (hs : OKs D) {way o f l p x : Int} {c c' : Int → Int} (n0 : 0 ≤ D 1 7) (h : CI D way o f l p c) (hx : jl D way o p x) (hl : x ≤ l) (e1 : c' x = 1) (e2 : ∀ k, k ≠ x → c' k = c k) : CI D way o f l x c' := by
  obtain ⟨h1, h2, h3, h4⟩ := h
  have px := hx.1.1.1
  refine ⟨⟨by omega, hl⟩, ch_j h2 hx, fun k k0 k1 => ?_, fun k k0 k1 => ?_⟩
  · by_cases z : k = x
    · rw [z, e1, pi1_t (ch_j h2 hx)]
    · rw [e2 k z]
      by_cases y : k ≤ p
      · exact h3 k k0 y
      · rw [h4 k (by omega) (by omega), pi1_f (fun w => ch_gap hs n0 k.toNat k p x (by omega) h2 hx (by omega) (by omega) w)]
  · rw [e2 k (by omega)]; exact h4 k (by omega) k1
theorem CI_0 {D : am_M} {way o f l : Int} {c : Int → Int} (h0 : 0 ≤ f) (h1 : f ≤ l) (h2 : l < D 1 7) (hb : bs D f) (e1 : c f = 1) (e2 : ∀ k, f < k → k ≤ l → c k = 0) : CI D way o f l f c :=
  ⟨⟨Int.le_refl _, h1⟩, ch_b h0 (by omega) hb, fun k k0 k1 => by rw [show k = f by omega, e1, pi1_t (ch_b h0 (by omega) hb)], e2⟩
theorem CI_e {D : am_M} {way o f l : Int} {c : Int → Int} (hw : way ≠ 1) (h : CI D way o f l l c) : ∀ k, f ≤ k → k ≤ l → c k = pi1 (CH D way o k) := fun k k0 k1 => by
  rw [h.2.2.1 k k0 k1]
  exact pi1_c ⟨fun z => Or.inr ⟨hw, z⟩, fun z => by rcases z with z | z; exact absurd z.1 hw; exact z.2⟩
theorem mp_far {f l : Int} {D M : am_M} {Q : am_M → Prop} {c : Int} (hd : OKd c D) (hs : OKs D) (hm : Mqr (M 70) D) (h0 : 0 ≤ f) (h1 : f ≤ l) (h2 : l < D 1 7) (h5 : D 5 f = D 5 l) (hb : bs D f) (he : es D l) (e1 : M 75 f = 1) (e2 : ∀ k, f < k → k ≤ l → M 75 k = 0)
    (hq : ∀ M', (∀ k, k ≠ 75 → M' k = M k) → (∀ k, (k < f ∨ l < k) → M' 75 k = M 75 k) → (∀ k, f ≤ k → k ≤ l → M' 75 k = pi1 (CH D 0 (D 6 0) k)) → Q M') : wp_X6_far f l M Q := by
  have n1 := hd.1
  have ho := hd.2.2.2.1
  have s5 : ∀ k, f ≤ k → k ≤ l → D 5 k = D 5 f := fun k k0 k1 => st_eq hs h0 k0 k1 h2 h5
  have inner : ∀ (k2 : Int → Int → am_M → Prop) (p : Int) (M1 : am_M), f ≤ p → p < l → (∀ k, k ≠ 75 → M1 k = M k) → (∀ x, jl D 0 (D 6 0) p x → x ≤ l → k2 l x (am_up M1 75 x 1)) → ∀ (r : Nat) (x : Int), x = p + 1 + r → x ≤ l → (∀ k, x < k → ¬ jo D (D 6 0) p k) → wl_X6_far_10 Q k2 (r + 1) l p x M1 := by
    intro k2 p M1 p0 p1 fr hk r
    have hm1 : Mqr (M1 70) D := by rw [fr 70 (by omega)]; exact hm
    have adj : jo D (D 6 0) p (p + 1) := jo_adj hd (by omega) (by omega) (by rw [s5 p p0 (by omega), s5 (p + 1) (by omega) (by omega)]) ho.1
    have take : ∀ x, p < x → x ≤ l → jn D p x (D 6 0) → (∀ k, x < k → ¬ jo D (D 6 0) p k) → jl D 0 (D 6 0) p x := fun x x0 x1 j no => ⟨⟨⟨x0, by omega, by rw [s5 p p0 (by omega), s5 x (by omega) x1], j⟩, Or.inl rfl⟩, fun k k0 y => no k k0 y.1⟩
    induction r with
    | zero =>
      intro x hx xl no
      rw [wl_X6_far_10, hm1.2.2.2.2.1]
      refine mp_canJoin hd hm1 (by omega) (by omega) (by omega) (by omega) (fun j => ⟨by unfold am_rg; omega, fun _ => ⟨by omega, hk x (take x (by omega) xl j no) xl⟩, fun e => absurd (by omega) e⟩) (fun j => ?_)
      rw [show x = p + 1 by omega] at j
      exact absurd adj.2.2.2 j
    | succ r ih =>
      intro x hx xl no
      rw [wl_X6_far_10, hm1.2.2.2.2.1]
      refine mp_canJoin hd hm1 (by omega) (by omega) (by omega) (by omega) (fun j => ⟨by unfold am_rg; omega, fun _ => ⟨by omega, hk x (take x (by omega) xl j no) xl⟩, fun e => absurd (by omega) e⟩) (fun j => ⟨by unfold am_rg; omega, fun e => absurd rfl e, fun _ => ih (x + (-1)) (by omega) (by omega) (fun k k0 y => ?_)⟩)
      by_cases z : k = x
      · rw [z] at y; exact j y.2.2.2
      · exact no k (by omega) y
  have outer : ∀ (r : Nat) (p : Int) (M1 : am_M), l - p ≤ r → CI D 0 (D 6 0) f l p (M1 75) → (∀ k, k ≠ 75 → M1 k = M k) → (∀ k, (k < f ∨ l < k) → M1 75 k = M 75 k) → wl_X6_far_2 Q (r + 1) l p M1 := by
    intro r
    induction r with
    | zero =>
      intro p M1 hr ci fr g
      have hp := ci.1
      refine ⟨by unfold am_rg; omega, by unfold am_rg; omega, fun _ => hq M1 fr g ?_, fun e => absurd (by omega) e⟩
      rw [show p = l by omega] at ci
      exact CI_e (by omega) ci
    | succ r ih =>
      intro p M1 hr ci fr g
      have hp := ci.1
      refine ⟨by unfold am_rg; omega, by unfold am_rg; omega, fun e => hq M1 fr g ?_, fun e => ⟨(l - p - 1).toNat + 1, inner _ p M1 hp.1 (by omega) fr (fun x jx xl => ?_) (l - p - 1).toNat l (by omega) (Int.le_refl _) (fun k k0 y => ?_)⟩⟩
      · rw [show p = l by omega] at ci
        exact CI_e (by omega) ci
      · have px := jx.1.1.1
        refine ih x _ (by omega) (CI_s hs n1.1 ci jx xl am_up_s (fun k hk => am_up_n hk)) (fun k hk => by rw [am_up_r hk]; exact fr k hk) (fun k hk => by rw [am_up_n (by omega)]; exact g k hk)
      · exact es_no hs (by omega) he k0 y.2.1 (by rw [← y.2.2.1, s5 p hp.1 (by omega), s5 l h1 (Int.le_refl _)])
  exact ⟨_, outer (l - f).toNat f M (by omega) (CI_0 h0 h1 h2 hb e1 e2) (fun _ _ => rfl) (fun _ _ => rfl)⟩
theorem HI_j {q : Int} {D : am_M} (hd : OKd q D) {o lo hi a b : Int} {c : Int → Int} (ho : 0 ≤ o) (h0 : 0 ≤ lo) (h1 : lo ≤ a) (h3 : hi < D 1 7) (hn : nx c a b) (hj : jn D a b o) (h : HI D o lo hi c a) : HI D o lo hi c b := by
  intro k k0 k1
  rw [h k k0 k1]
  constructor
  · rintro (hk | ⟨x, y, x0, y0, hxy, e5, xk, ky, hs⟩)
    · exact Or.inl hk
    · by_cases z : x = a
      · rw [z] at hxy hs
        have ey : y = b := by
          by_cases y1 : y < b
          · exact absurd hxy.2.2.1 (hn.2.2.2 y hxy.1 y1)
          · by_cases y2 : b < y
            · exact absurd hn.2.2.1 (hxy.2.2.2 b hn.1 y2)
            · omega
        rw [ey] at hs
        have ab := hn.1
        exact absurd hj ((hS_eq hd ho (by omega) hn.1 (by omega)).mp hs).1
      · refine Or.inr ⟨x, y, ?_, y0, hxy, e5, xk, ky, hs⟩
        by_cases w : x < b
        · exact absurd hxy.2.1 (hn.2.2.2 x (by omega) w)
        · omega
  · rintro (hk | ⟨x, y, x0, y0, hxy, e5, xk, ky, hs⟩)
    · exact Or.inl hk
    · exact Or.inr ⟨x, y, by have := hn.1; omega, y0, hxy, e5, xk, ky, hs⟩
theorem HI_f {D : am_M} (hs : OKs D) {o f l : Int} {c : Int → Int} (h0 : 0 ≤ f) (h1 : f ≤ l) (h2 : l < D 1 7) (h5 : D 5 f = D 5 l) (hb : bs D f) (he : es D l) (e1 : c f = 1) (e2 : c l = 1) (e3 : ∀ k, f < k → k < l → c k = 0) : HI D o f l c f := by
  intro k k0 k1
  have s5 : D 5 k = D 5 f := st_eq hs h0 k0 k1 h2 h5
  have bf : bs D k → k = f := fun b => by
    by_cases z : k = f
    · exact z
    · exact absurd s5.symm (bs_no hs h0 b (by omega) (by omega))
  have el : es D k → k = l := fun e => by
    by_cases z : k = l
    · exact z
    · exact absurd (by omega) (es_no hs (by omega) e (show k < l by omega) h2)
  constructor
  · rintro (b | e | ⟨x, y, x0, y0, bx, ey, xy5, xk, ky, h⟩)
    · rw [bf b]; exact Or.inl e1
    · rw [el e]; exact Or.inl e2
    · have x5 := st_eq hs (i := x) (k := k) (j := y) x0 (by omega) (by omega) y0 xy5
      have xf : x = f := by
        by_cases z : x < f
        · exact absurd (by omega) (bs_no hs x0 hb z (by omega))
        · by_cases w : f < x
          · exact absurd (by omega) (bs_no hs h0 bx w (by omega))
          · omega
      have yl : y = l := by
        by_cases z : y < l
        · exact absurd (by omega) (es_no hs (by omega) ey z h2)
        · by_cases w : l < y
          · exact absurd (by omega) (es_no hs (by omega) he w y0)
          · omega
      rw [xf] at xk h
      rw [yl] at ky h
      exact Or.inr ⟨f, l, Int.le_refl _, Int.le_refl _, ⟨by omega, e1, e2, fun z z0 z1 w => by rw [e3 z z0 z1] at w; omega⟩, h5, xk, ky, h⟩
  · rintro (hk | ⟨x, y, x0, y0, hxy, e5, xk, ky, h⟩)
    · by_cases z : k = f
      · rw [z]; exact Or.inl hb
      · by_cases w : k = l
        · rw [w]; exact Or.inr (Or.inl he)
        · rw [e3 k (by omega) (by omega)] at hk; omega
    · have xf : x = f := by
        by_cases z : x = f
        · exact z
        · have := hxy.2.1; rw [e3 x (by omega) (by have := hxy.1; omega)] at this; omega
      have yl : y = l := by
        by_cases z : y = l
        · exact z
        · have := hxy.2.2.1; rw [e3 y (by have := hxy.1; omega) (by omega)] at this; omega
      rw [xf] at xk h
      rw [yl] at ky h
      exact Or.inr (Or.inr ⟨f, l, h0, h2, hb, he, h5, xk, ky, h⟩)
theorem mp_halves {f l : Int} {D M : am_M} {Q : am_M → Prop} {c : Int} (hd : OKd c D) (hs : OKs D) (hm : Mqr (M 70) D) (h0 : 0 ≤ f) (h1 : f ≤ l) (h2 : l < D 1 7) (h5 : D 5 f = D 5 l) (hb : bs D f) (he : es D l) (e1 : M 75 f = 1) (e2 : ∀ k, f < k → k ≤ l → M 75 k = 0)
    (hq : ∀ M', (∀ k, k ≠ 75 → M' k = M k) → (∀ k, (k < f ∨ l < k) → M' 75 k = M 75 k) → (∀ k, f ≤ k → k ≤ l → M' 75 k = pi1 (CH D 1 (D 6 0) k)) → Q M') : wp_X6_halves f l M Q := by
  have n1 := hd.1
  have ho := hd.2.2.2.1
  have s5 : ∀ k, f ≤ k → k ≤ l → D 5 k = D 5 f := fun k k0 k1 => st_eq hs h0 k0 k1 h2 h5
  have fin : ∀ M1, (∀ k, k ≠ 75 → M1 k = M k) → (∀ k, (k < f ∨ l < k) → M1 75 k = M 75 k) → (∀ k, f ≤ k → k ≤ l → M1 75 k = 0 ∨ M1 75 k = 1) → HI D (D 6 0) f l (M1 75) l → Q M1 := fun M1 fr g z hi => hq M1 fr g (fun k k0 k1 => by
    rw [pi1_u (z k k0 k1) (HI_e (Int.le_refl _) hi k0 k1).symm]
    exact pi1_c ⟨fun w => Or.inl ⟨rfl, w⟩, fun w => by rcases w with w | w; exact w.2; exact absurd rfl w.1⟩)
  have inner : ∀ (k9 : Int → Int → am_M → Prop) (a : Int) (M1 : am_M), f ≤ a → a < l → (∀ k, k ≠ 75 → M1 k = M k) → (∀ k, f ≤ k → k ≤ l → M1 75 k = 0 ∨ M1 75 k = 1) → M1 75 a = 1 → M1 75 l = 1 → (∀ b, b ≤ l → nx (M1 75) a b → jn D a b (D 6 0) → k9 l b M1) → (∀ b, b ≤ l → nx (M1 75) a b → ¬ jn D a b (D 6 0) → k9 l a (am_up M1 75 (wst D a b) 1)) → ∀ (r : Nat) (b : Int), a < b → b + r = l → (∀ z, a < z → z < b → M1 75 z ≠ 1) → wl_X6_halves_19 Q k9 (r + 1) l a b M1 := by
    intro k9 a M1 a0 a1 fr z01 ca cl kj kn r
    have hm1 : Mqr (M1 70) D := by rw [fr 70 (by omega)]; exact hm
    have at1 : ∀ (n : Nat) (b : Int), a < b → b ≤ l → (∀ z, a < z → z < b → M1 75 z ≠ 1) → M1 75 b = 1 → wl_X6_halves_19 Q k9 (n + 1) l a b M1 := by
      intro n b b0 b1 no cb
      have hnx : nx (M1 75) a b := ⟨b0, ca, cb, no⟩
      rw [wl_X6_halves_19, hm1.2.2.2.2.1]
      refine ⟨by omega, by rw [cb]; unfold am_rg; omega, fun _ => ?_, fun e => absurd (by omega) e⟩
      refine mp_canJoin hd hm1 (by omega) (by omega) b0 (by omega) (fun j => ⟨by unfold am_rg; omega, fun e => absurd e (by omega), fun _ => kj b b1 hnx j⟩) (fun j => ⟨by unfold am_rg; omega, fun _ => ?_, fun e => absurd rfl e⟩)
      have hw := wst_b hd ho.1 (by omega) b0 (by omega) j
      exact mp_worst hd hm1 (by omega) (by omega) (by omega) ⟨by omega, kn b b1 hnx j⟩
    induction r with
    | zero =>
      intro b b0 hr no
      refine at1 0 b b0 (by omega) no ?_
      rw [show b = l by omega]; exact cl
    | succ r ih =>
      intro b b0 hr no
      by_cases z : M1 75 b = 1
      · exact at1 (r + 1) b b0 (by omega) no z
      · have z0 : M1 75 b = 0 := by have := z01 b (by omega) (by omega); omega
        refine ⟨by omega, by rw [z0]; unfold am_rg; omega, fun e => absurd z0 e, fun _ => ih (b + 1) (by omega) (by omega) (fun y y0 y1 => ?_)⟩
        by_cases w : y = b
        · rw [w]; exact z
        · exact no y y0 (by omega)
  have outer : ∀ (r s : Nat) (a : Int) (M1 : am_M), l - a ≤ r → f ≤ a → a ≤ l → (∀ k, k ≠ 75 → M1 k = M k) → (∀ k, (k < f ∨ l < k) → M1 75 k = M 75 k) → (∀ k, f ≤ k → k ≤ l → M1 75 k = 0 ∨ M1 75 k = 1) → M1 75 a = 1 → M1 75 l = 1 → HI D (D 6 0) f l (M1 75) a → (∀ b, b ≤ l → nx (M1 75) a b → b - a ≤ s) → ∃ e, wl_X6_halves_9 Q e l a M1 := by
    intro r
    induction r with
    | zero =>
      intro s a M1 hr a0 a1 fr g z01 ca cl hi _
      refine ⟨1, by unfold am_rg; omega, by unfold am_rg; omega, fun _ => fin M1 fr g z01 ?_, fun e => absurd (by omega) e⟩
      rw [show a = l by omega] at hi
      exact hi
    | succ r ihr =>
      intro s
      induction s with
      | zero =>
        intro a M1 hr a0 a1 fr g z01 ca cl hi hs2
        by_cases z : a = l
        · refine ⟨1, by unfold am_rg; omega, by unfold am_rg; omega, fun _ => fin M1 fr g z01 ?_, fun e => absurd (by omega) e⟩
          rw [z] at hi
          exact hi
        · have ex : ∃ b, b ≤ l ∧ nx (M1 75) a b := by
            have key : ∀ (n : Nat) (b : Int), b + n = l → a < b → (∀ z, a < z → z < b → M1 75 z ≠ 1) → ∃ b, b ≤ l ∧ nx (M1 75) a b := by
              intro n
              induction n with
              | zero => intro b hb b0 no; exact ⟨b, by omega, b0, ca, by rw [show b = l by omega]; exact cl, no⟩
              | succ n ih =>
                intro b hb b0 no
                by_cases w : M1 75 b = 1
                · exact ⟨b, by omega, b0, ca, w, no⟩
                · refine ih (b + 1) (by omega) (by omega) (fun y y0 y1 => ?_)
                  by_cases v : y = b
                  · rw [v]; exact w
                  · exact no y y0 (by omega)
            exact key (l - (a + 1)).toNat (a + 1) (by omega) (by omega) (fun y y0 y1 => by omega)
          obtain ⟨b, bl, hb2⟩ := ex
          have := hs2 b bl hb2
          have := hb2.1
          omega
      | succ s ihs =>
        intro a M1 hr a0 a1 fr g z01 ca cl hi hs2
        by_cases z : a = l
        · refine ⟨1, by unfold am_rg; omega, by unfold am_rg; omega, fun _ => fin M1 fr g z01 ?_, fun e => absurd (by omega) e⟩
          rw [z] at hi
          exact hi
        · have ex : ∃ b, b ≤ l ∧ nx (M1 75) a b := by
            have key : ∀ (n : Nat) (b : Int), b + n = l → a < b → (∀ z, a < z → z < b → M1 75 z ≠ 1) → ∃ b, b ≤ l ∧ nx (M1 75) a b := by
              intro n
              induction n with
              | zero => intro b hb b0 no; exact ⟨b, by omega, b0, ca, by rw [show b = l by omega]; exact cl, no⟩
              | succ n ih =>
                intro b hb b0 no
                by_cases w : M1 75 b = 1
                · exact ⟨b, by omega, b0, ca, w, no⟩
                · refine ih (b + 1) (by omega) (by omega) (fun y y0 y1 => ?_)
                  by_cases v : y = b
                  · rw [v]; exact w
                  · exact no y y0 (by omega)
            exact key (l - (a + 1)).toNat (a + 1) (by omega) (by omega) (fun y y0 y1 => by omega)
          obtain ⟨b, bl, hnx⟩ := ex
          have ab := hnx.1
          have uq : ∀ y, nx (M1 75) a y → y = b := by
            intro y h
            by_cases z1 : y < b
            · exact absurd h.2.2.1 (hnx.2.2.2 y h.1 z1)
            · by_cases z2 : b < y
              · exact absurd hnx.2.2.1 (h.2.2.2 b ab z2)
              · omega
          have e59 : D 5 a = D 5 b := by rw [s5 a a0 a1, s5 b (by omega) bl]
          by_cases j : jn D a b (D 6 0)
          · obtain ⟨e, he2⟩ := ihr (l - b).toNat b M1 (by omega) (by omega) bl fr g z01 hnx.2.2.1 cl (HI_j hd ho.1 h0 a0 h2 hnx j hi) (fun y yl _ => by omega)
            refine ⟨e + 1, by unfold am_rg; omega, by unfold am_rg; omega, fun w => absurd w (by omega), fun _ => ⟨(l - (a + 1)).toNat + 1, inner _ a M1 a0 (by omega) fr z01 ca cl (fun y yl hy _ => by rw [uq y hy]; exact he2) (fun y yl hy nj => by rw [uq y hy] at nj; exact absurd j nj) _ (a + 1) (by omega) (by omega) (fun y y0 y1 => by omega)⟩⟩
          · have hw := wst_b hd ho.1 (by omega) ab (by omega) j
            have es1 : am_up M1 75 (wst D a b) 1 75 (wst D a b) = 1 := am_up_s
            have en : ∀ k, k ≠ wst D a b → am_up M1 75 (wst D a b) 1 75 k = M1 75 k := fun k hk => am_up_n hk
            have ex2 : ∃ e, wl_X6_halves_9 Q e l a (am_up M1 75 (wst D a b) 1) := by
              refine ihs a _ hr a0 a1 (fun k hk => by rw [am_up_r hk]; exact fr k hk) (fun k hk => by rw [en k (by omega)]; exact g k hk) (fun k k0 k1 => ?_) (by rw [en a (by omega)]; exact ca) (by rw [en l (by omega)]; exact cl) (HI_c hd ho.1 h0 a0 bl h2 hnx e59 j es1 en hi (by rw [s5 (wst D a b) (by omega) (by omega), s5 a a0 a1])) (fun y yl hy => ?_)
              · by_cases w : k = wst D a b
                · rw [w, es1]; exact Or.inr rfl
                · rw [en k w]; exact z01 k k0 k1
              · have : y ≤ wst D a b := by
                  by_cases w : y ≤ wst D a b
                  · exact w
                  · exact absurd es1 (hy.2.2.2 _ hw.1 (by omega))
                have := hs2 b bl hnx
                omega
            obtain ⟨e, he2⟩ := ex2
            refine ⟨e + 1, by unfold am_rg; omega, by unfold am_rg; omega, fun w => absurd w (by omega), fun _ => ⟨(l - (a + 1)).toNat + 1, inner _ a M1 a0 (by omega) fr z01 ca cl (fun y yl hy jy => by rw [uq y hy] at jy; exact absurd jy j) (fun y yl hy _ => by rw [uq y hy]; exact he2) _ (a + 1) (by omega) (by omega) (fun y y0 y1 => by omega)⟩⟩
  refine ⟨by omega, ?_⟩
  have c1 : am_up M 75 l 1 75 l = 1 := am_up_s
  have cf : am_up M 75 l 1 75 f = 1 := by
    by_cases z : f = l
    · rw [z]; exact am_up_s
    · rw [am_up_n z]; exact e1
  refine outer (l - f).toNat (l - f).toNat f (am_up M 75 l 1) (by omega) (Int.le_refl _) h1 (fun k hk => am_up_r hk) (fun k hk => am_up_n (by omega)) (fun k k0 k1 => ?_) cf c1 (HI_f hs h0 h1 h2 h5 hb he cf c1 (fun k k0 k1 => by rw [am_up_n (by omega)]; exact e2 k k0 (by omega))) (fun b bl _ => by omega)
  by_cases z : k = l
  · rw [z, c1]; exact Or.inr rfl
  · rw [am_up_n z]
    by_cases w : k = f
    · rw [w, e1]; exact Or.inr rfl
    · rw [e2 k (by omega) k1]; exact Or.inl rfl
