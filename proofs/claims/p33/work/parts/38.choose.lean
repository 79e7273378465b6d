theorem sm_s {f : Int → Int} {i : Nat} : sm f (i + 1) = sm f i + f (i : Int) := rfl
theorem dp_joinBehind {i way o : Int} {D M : am_M} {Q : am_M → Prop} {c : Int} (hd : OKd c D) (hs : OKs D) (hf : Fr8 D M) (hn : ND D M) (ho : 0 ≤ o ∧ o ≤ 600) (hi : 0 ≤ i ∧ i < D 1 7) (hw : way = 0 ∨ way = 2) (h12 : way = 2 → ∀ k, 0 ≤ k → k < D 1 7 → M 12 k = fw D o k)
    (q1 : ∀ j, jl D way o i j → Q (am_up M 11 j 1)) (q0 : (∀ j, ¬ jp D way o i j) → Q M) : wp_X4_joinBehind i way o M Q := by
  have hd' := hd
  obtain ⟨⟨n0, n1⟩, -⟩ := hd'
  have e1 : M 1 7 = D 1 7 := congrFun (fr_1 hf) 7
  have fin : ∀ v j, (∀ k, j ≤ k → ¬ jp D way o i k) → ((v = -1000000 ∧ ∀ k, k < j → ¬ jp D way o i k) ∨ (v < j ∧ jp D way o i v ∧ ∀ k, v < k → k < j → ¬ jp D way o i k)) → wj_X4_joinBehind_81 Q v M := by
    intro v j hj inv
    have rv : (v = -1000000) ∨ (0 ≤ v ∧ v < D 1 7) := by
      rcases inv with ⟨h, -⟩ | ⟨-, h, -⟩
      · exact Or.inl h
      · have := h.1.1; have := h.1.2.1; omega
    refine dp_hasPoint hd hf (by unfold am_rg; omega) (fun y => ⟨by unfold am_rg; omega, fun e => absurd e (by omega), fun _ => ⟨by omega, q1 v ?_⟩⟩) (fun y => ⟨by unfold am_rg; omega, fun _ => q0 ?_, fun e => absurd rfl e⟩)
    · rcases inv with ⟨h, -⟩ | ⟨h1, h2, h3⟩
      · omega
      · exact ⟨h2, fun k hk h => by
          by_cases z : k < j
          · exact h3 k hk z h
          · exact hj k (by omega) h⟩
    · rcases inv with ⟨h1, h2⟩ | ⟨h1, h2, h3⟩
      · exact fun k h => by
          by_cases z : k < j
          · exact h2 k z h
          · exact hj k (by omega) h
      · have := h2.1.1; omega
  have loop : ∀ (r : Nat) (j v : Int), i < j → j + r = D 1 7 → ((v = -1000000 ∧ ∀ k, k < j → ¬ jp D way o i k) ∨ (v < j ∧ jp D way o i v ∧ ∀ k, v < k → k < j → ¬ jp D way o i k)) → wl_X4_joinBehind_9 Q (r + 1) i way o v j M := by
    intro r
    induction r with
    | zero =>
      intro j v hj hr inv
      exact ⟨by unfold am_rg; omega, by unfold am_rg; omega, fun _ => fin v j (fun k hk h => by have := h.1.2.1; omega) inv, fun q => absurd q (by omega)⟩
    | succ r ih =>
      intro j v hj hr inv
      have yes : jp D way o i j → wl_X4_joinBehind_9 Q (r + 1) i way o j (j + 1) M := fun h => ih (j + 1) j (by omega) (by omega) (Or.inr ⟨by omega, h, fun k k0 k1 => by omega⟩)
      have no : ¬ jp D way o i j → wl_X4_joinBehind_9 Q (r + 1) i way o v (j + 1) M := by
        intro h
        refine ih (j + 1) v (by omega) (by omega) ?_
        rcases inv with ⟨h1, h2⟩ | ⟨h1, h2, h3⟩
        · refine Or.inl ⟨h1, fun k hk g => ?_⟩
          by_cases z : k = j
          · rw [z] at g; exact h g
          · exact h2 k (by omega) g
        · refine Or.inr ⟨by omega, h2, fun k k0 hk g => ?_⟩
          by_cases z : k = j
          · rw [z] at g; exact h g
          · exact h3 k k0 (by omega) g
      refine ⟨by unfold am_rg; omega, by unfold am_rg; omega, fun q => absurd q (by omega), fun _ => ?_⟩
      refine dp_sameStretch hd hs hf (by unfold am_rg; omega) (by unfold am_rg; omega) (fun y => ⟨by unfold am_rg; omega, fun e => absurd e (by omega), fun _ => ?_⟩) (fun y => ⟨by unfold am_rg; omega, fun _ => fin v j (fun k hk h => ?_) inv, fun e => absurd rfl e⟩)
      · refine dp_cell (by omega) (by omega) ?_
        have e13 : M 13 (i * 60 + j) = nd D i j := hn i j hi.1 hj (by omega) y.2.2
        have hnb := nd_b hd hi.1 hj (by omega)
        have hle := nd_le hd (o := o) hi.1 hj (by omega) ho.1
        rw [e13]
        refine ⟨by omega, by unfold am_rg; omega, by unfold am_rg; omega, fun e => no (fun h => absurd (hle.mpr h.1.2.2.2) (by omega)), fun e => ⟨by unfold am_rg; omega, fun e2 => yes ⟨⟨hj, by omega, y.2.2, hle.mp (by omega)⟩, Or.inl e2⟩, fun e2 => ⟨by omega, by omega, ?_⟩⟩⟩
        have w2 : way = 2 := by omega
        have b1 := fw_b (D := D) (o := o) (i := j) (by omega) (by omega)
        have b2 := fw_b (D := D) (o := o) hi.1 hi.2
        rw [h12 w2 j (by omega) (by omega), h12 w2 i hi.1 hi.2]
        exact ⟨by unfold am_rg; omega, by unfold am_rg; omega, fun e3 => no (fun h => by have := h.2; omega), fun e3 => yes ⟨⟨hj, by omega, y.2.2, hle.mp (by omega)⟩, Or.inr (by omega)⟩⟩
      · have h1 := st_eq hs (i := i) (k := j) (j := k) hi.1 (by omega) hk h.1.2.1 h.1.2.2.1
        exact y ⟨hi, ⟨by omega, by omega⟩, by omega⟩
  exact ⟨_, loop (D 1 7 - (i + 1)).toNat (i + 1) (-1000000) (by omega) (by omega) (Or.inl ⟨rfl, fun k hk h => by have := h.1.1; omega⟩)⟩
theorem dp_chosenBehind {p : Int} {D M : am_M} {Q : Int → am_M → Prop} {c : Int} (hd : OKd c D) (hf : Fr8 D M) (hp : 0 ≤ p ∧ p < D 1 7) (h01 : ∀ k, 0 ≤ k → k < D 1 7 → M 11 k = 0 ∨ M 11 k = 1)
    (q1 : ∀ y, p < y → y < D 1 7 → M 11 y = 1 → (∀ z, p < z → z < y → M 11 z ≠ 1) → Q y M) (q0 : (∀ z, p < z → z < D 1 7 → M 11 z ≠ 1) → Q (-1000000) M) : wp_X4_chosenBehind p M Q := by
  have hd' := hd
  obtain ⟨⟨n0, n1⟩, -⟩ := hd'
  have e1 : M 1 7 = D 1 7 := congrFun (fr_1 hf) 7
  have loop : ∀ (r : Nat) (j : Int), p < j → j + r = D 1 7 → (∀ z, p < z → z < j → M 11 z ≠ 1) → wl_X4_chosenBehind_8 Q (r + 1) j M := by
    intro r
    induction r with
    | zero =>
      intro j hj hr inv
      exact ⟨by unfold am_rg; omega, by unfold am_rg; omega, fun _ => q0 (fun z z0 z1 => inv z z0 (by omega)), fun q => absurd q (by omega)⟩
    | succ r ih =>
      intro j hj hr inv
      have hk := h01 j (by omega) (by omega)
      refine ⟨by unfold am_rg; omega, by unfold am_rg; omega, fun q => absurd q (by omega), fun _ => ⟨by omega, by unfold am_rg; omega, fun e => ih (j + 1) (by omega) (by omega) (fun z z0 z1 => ?_), fun e => q1 j hj (by omega) (by omega) inv⟩⟩
      by_cases y : z = j
      · rw [y]; exact e
      · exact inv z z0 (by omega)
  refine ⟨by unfold am_rg; omega, ?_⟩
  rw [if_neg (by omega)]
  exact ⟨_, loop (D 1 7 - (p + 1)).toNat (p + 1) (by omega) (by omega) (fun z z0 z1 => by omega)⟩
/-- chosen or not -/
def Ch01 (D : am_M) (c : Int → Int) : Prop := ∀ k, 0 ≤ k → k < D 1 7 → c k = 0 ∨ c k = 1
def Fcd (M M' : am_M) : Prop := ∀ k, k ≠ 9 → k ≠ 11 → M' k = M k
theorem dp_halveBehind {i o : Int} {D M : am_M} {Q : am_M → Prop} {c : Int} (hd : OKd c D) (hs : OKs D) (hf : Fr8 D M) (hn : ND D M) (ho : 0 ≤ o ∧ o ≤ 600) (hi : 0 ≤ i ∧ i < D 1 7) (h01 : Ch01 D (M 11)) (ci : M 11 i = 1) (hI : HI D o 0 (D 1 7 - 1) (M 11) i)
    (hq : ∀ M', Fcd M M' → Ch01 D (M' 11) → (∀ k, k ≤ i → M' 11 k = M 11 k) → HI D o 0 (D 1 7 - 1) (M' 11) (i + 1) → Q M') : wp_X4_halveBehind i o M Q := by
  have hd' := hd
  obtain ⟨⟨n0, n1⟩, -⟩ := hd'
  have loop : ∀ (r : Nat) (v : Int) (M1 : am_M), 0 ≤ v → v ≤ 59 → Fcd M M1 → Ch01 D (M1 11) → (∀ k, k ≤ i → M1 11 k = M 11 k) → HI D o 0 (D 1 7 - 1) (M1 11) i → (∀ y, y < D 1 7 → nx (M1 11) i y → v + (y - i) ≤ 60 ∧ y - i ≤ r) → wl_X4_halveBehind_2 Q (r + 1) i o v M1 := by
    intro r
    induction r with
    | zero =>
      intro v M1 v0 v1 f1 g01 gk gI hy
      have hf1 : Fr8 D M1 := fun k k1 k2 => (f1 k (by omega) (by omega)).trans (hf k k1 k2)
      have none : ∀ y, y < D 1 7 → ¬ nx (M1 11) i y := fun y y1 h => by have := hy y y1 h; have := h.1; omega
      have done : Q M1 := hq M1 f1 g01 gk (HI_n hd ho.1 (by omega) hi.1 (by omega) (fun y y1 h => absurd h (none y (by omega))) gI)
      have c1 : M1 11 i = 1 := by rw [gk i (by omega)]; exact ci
      refine ⟨by unfold am_rg; omega, fun q => absurd q (by omega), fun _ => ?_⟩
      refine dp_chosenBehind hd hf1 hi g01 (fun y y0 y1 y2 y3 => absurd ⟨y0, c1, y2, y3⟩ (none y y1)) (fun z => ?_)
      exact dp_sameStretch hd hs hf1 (by unfold am_rg; omega) (by unfold am_rg; omega) (fun y => by omega) (fun y => ⟨by unfold am_rg; omega, fun _ => done, fun e => absurd rfl e⟩)
    | succ r ih =>
      intro v M1 v0 v1 f1 g01 gk gI hy
      have hf1 : Fr8 D M1 := fun k k1 k2 => (f1 k (by omega) (by omega)).trans (hf k k1 k2)
      have c1 : M1 11 i = 1 := by rw [gk i (by omega)]; exact ci
      refine ⟨by unfold am_rg; omega, fun q => absurd q (by omega), fun _ => ?_⟩
      refine dp_chosenBehind hd hf1 hi g01 (fun b b0 b1 b2 b3 => ?_) (fun z => ?_)
      · have hnx : nx (M1 11) i b := ⟨b0, c1, b2, b3⟩
        have hyb := hy b b1 hnx
        have uq : ∀ y, nx (M1 11) i y → y = b := by
          intro y h
          by_cases z1 : y < b
          · exact absurd h.2.2.1 (b3 y h.1 z1)
          · by_cases z2 : b < y
            · exact absurd b2 (h.2.2.2 b b0 z2)
            · omega
        refine dp_sameStretch hd hs hf1 (by unfold am_rg; omega) (by unfold am_rg; omega) (fun y => ⟨by unfold am_rg; omega, fun e => absurd e (by omega), fun _ => ?_⟩) (fun y => ⟨by unfold am_rg; omega, fun _ => hq M1 f1 g01 gk (HI_n hd ho.1 (by omega) hi.1 (by omega) (fun y' y1 h e => ?_) gI), fun e => absurd rfl e⟩)
        · refine dp_cell (by omega) (by omega) ?_
          have e13 : M1 13 (i * 60 + b) = nd D i b := by rw [f1 13 (by omega) (by omega)]; exact hn i b hi.1 b0 b1 y.2.2
          have hnb := nd_b hd hi.1 b0 b1
          have hle := nd_le hd (o := o) hi.1 b0 b1 ho.1
          rw [e13]
          refine ⟨by omega, by unfold am_rg; omega, by unfold am_rg; omega, fun e => ?_, fun e => ?_⟩
          · have hj : ¬ jn D i b o := fun h => absurd (hle.mpr h) (by omega)
            have hw := wst_b hd ho.1 hi.1 b0 b1 hj
            refine dp_findWorst hd hs hf1 hi.1 b0 b1 y.2.2 (fun M2 f2 _ _ => ?_)
            have ew : sp_wi D i b (b - i - 1).toNat = wst D i b := rfl
            rw [ew]
            have hf2 := Fx_f hf1 (by omega) f2
            refine dp_hasPoint hd hf2 (by unfold am_rg; omega) (fun _ => ⟨by unfold am_rg; omega, fun _ => ⟨by omega, ?_⟩, fun e => absurd e (by omega)⟩) (fun z => absurd ⟨by omega, by omega⟩ z)
            have e11 : M2 11 = M1 11 := f2 11 (by omega)
            have es : am_up M2 11 (wst D i b) 1 11 (wst D i b) = 1 := am_up_s
            have en : ∀ k, k ≠ wst D i b → am_up M2 11 (wst D i b) 1 11 k = M1 11 k := fun k hk => by rw [am_up_n hk, e11]
            refine ih (v + 1) _ (by omega) (by omega) (fun k k9 k11 => by rw [am_up_r k11, f2 k k9, f1 k k9 k11]) (fun k k0 k1 => ?_) (fun k k0 => by rw [en k (by omega)]; exact gk k k0) (HI_c hd ho.1 (by omega) hi.1 (by omega) (by omega) hnx y.2.2 hj es en gI (st_eq hs hi.1 (by omega) (by omega) b1 y.2.2)) (fun y' y1 h => ?_)
            · by_cases z : k = wst D i b
              · rw [z, es]; exact Or.inr rfl
              · rw [en k z]; exact g01 k k0 k1
            · have : y' ≤ wst D i b := by
                by_cases z : y' ≤ wst D i b
                · exact z
                · exact absurd es (h.2.2.2 _ hw.1 (by omega))
              have := h.1
              omega
          · refine hq M1 f1 g01 gk (HI_n hd ho.1 (by omega) hi.1 (by omega) (fun y' y1 h e5 => ?_) gI)
            rw [uq y' h]
            exact hle.mp (by omega)
        · rw [uq y' h] at e
          exact absurd ⟨hi, ⟨by omega, b1⟩, e⟩ y
      · refine dp_sameStretch hd hs hf1 (by unfold am_rg; omega) (by unfold am_rg; omega) (fun y => by omega) (fun y => ⟨by unfold am_rg; omega, fun _ => hq M1 f1 g01 gk (HI_n hd ho.1 (by omega) hi.1 (by omega) (fun y' y1 h e => absurd h.2.2.1 (z y' h.1 (by omega))) gI), fun e => absurd rfl e⟩)
  exact ⟨_, loop 60 0 M (by omega) (by omega) (fun _ _ _ => rfl) h01 (fun _ _ => rfl) hI (fun y y1 h => by omega)⟩
/-- what a way chooses -/
def CH (D : am_M) (way o k : Int) : Prop := (way = 1 ∧ FH D o k) ∨ (way ≠ 1 ∧ ch D way o k)
noncomputable def pi1 (P : Prop) : Int := @ite Int P (Classical.propDecidable P) 1 0
theorem pi1_t {P : Prop} (h : P) : pi1 P = 1 := by unfold pi1; exact @if_pos _ (Classical.propDecidable P) h _ _ _
theorem pi1_f {P : Prop} (h : ¬ P) : pi1 P = 0 := by unfold pi1; exact @if_neg _ (Classical.propDecidable P) h _ _ _
theorem pi1_u {P : Prop} {x : Int} (h : x = 0 ∨ x = 1) (g : x = 1 ↔ P) : x = pi1 P := by
  by_cases z : P
  · rw [pi1_t z]; exact g.mpr z
  · rw [pi1_f z]; rcases h with h | h
    · exact h
    · exact absurd (g.mp h) z
/-- how many a way keeps -/
noncomputable def chn (D : am_M) (way o : Int) : Int := sm (fun k => pi1 (CH D way o k)) (D 1 7).toNat
def JI (D : am_M) (way o : Int) (c : Int → Int) (i : Int) : Prop := ∀ j, 0 ≤ j → j < D 1 7 → (c j = 1 ↔ es D j ∨ bs D j ∨ ∃ i', i' < i ∧ ch D way o i' ∧ jl D way o i' j)
theorem JI_c {q : Int} {D : am_M} (hd : OKd q D) (hs : OKs D) {way o i j : Int} {c : Int → Int} (hw : way = 0 ∨ way = 2) (ho : 0 ≤ o) (h : JI D way o c i) (h0 : 0 ≤ j) (h1 : j ≤ i) (h2 : j < D 1 7) : c j = 1 ↔ ch D way o j := by
  have hd' := hd
  obtain ⟨⟨n0, n1⟩, -⟩ := hd'
  rw [h j h0 h2]
  constructor
  · rintro (e | b | ⟨i', a, b, d⟩)
    · exact ch_e hd hs hw ho h0 h2 e
    · exact ch_b h0 h2 b
    · exact ch_j b d
  · intro e
    rcases ch_i e with b | ⟨i', a, b⟩
    · exact Or.inr (Or.inl b)
    · exact Or.inr (Or.inr ⟨i', by have := b.1.1.1; omega, a, b⟩)
theorem dp_choose {way : Int} {D M : am_M} {Q : Int → am_M → Prop} {c : Int} (hd : OKd c D) (hs : OKs D) (hf : Fr8 D M) (hv : NV D M) (hw : 0 ≤ way ∧ way ≤ 2)
    (hq : ∀ M', Fc M M' → NV D M' → (∀ k, 0 ≤ k → k < D 1 7 → M' 11 k = pi1 (CH D way (D 6 0) k)) → Q (chn D way (D 6 0)) M') : wp_X4_choose way M Q := by
  have hd' := hd
  obtain ⟨⟨n0, n1⟩, -, -, o1, -⟩ := hd'
  generalize ho' : D 6 0 = o at hq
  have ho : 0 ≤ o ∧ o ≤ 600 := by omega
  have last : ∀ (M0 : am_M), Fc M M0 → M0 10 5 = 1 → ND D M0 → (way = 2 → ∀ k, 0 ≤ k → k < D 1 7 → M0 12 k = fw D o k) → ∀ (r : Nat) (i : Int) (M1 : am_M), 0 ≤ i → i + r = D 1 7 → Fcd M0 M1 → Ch01 D (M1 11) → (way = 1 → HI D o 0 (D 1 7 - 1) (M1 11) i) → (way ≠ 1 → JI D way o (M1 11) i) → wl_X4_choose_82 Q (r + 1) way o (sm (M1 11) i.toNat) i M1 := by
    intro M0 f0 v0 w0 h12 r
    have hf0 := Fc_f hf f0
    induction r with
    | zero =>
      intro i M1 i0 hr f1 g01 gI gJ
      have e1 : M1 1 7 = D 1 7 := by rw [f1 1 (by omega) (by omega)]; exact congrFun (fr_1 hf0) 7
      have key : ∀ k, 0 ≤ k → k < D 1 7 → M1 11 k = pi1 (CH D way o k) := by
        intro k k0 k1
        refine pi1_u (g01 k k0 k1) ?_
        by_cases z : way = 1
        · rw [← HI_e (by omega) (gI z) k0 (by omega)]
          exact ⟨fun h => Or.inl ⟨z, h⟩, fun h => by rcases h with h | h; exact h.2; exact absurd z h.1⟩
        · rw [JI_c hd hs (by omega) ho.1 (gJ z) k0 (by omega) k1]
          exact ⟨fun h => Or.inr ⟨z, h⟩, fun h => by rcases h with h | h; exact absurd h.1 z; exact h.2⟩
      refine ⟨by unfold am_rg; omega, by unfold am_rg; omega, fun _ => ?_, fun q => absurd q (by omega)⟩
      have es : sm (M1 11) i.toNat = chn D way o := by
        unfold chn
        rw [show i.toNat = (D 1 7).toNat by omega]
        exact sm_cg _ (fun k k0 k1 => key k k0 (by omega))
      rw [es]
      exact hq M1 (fun k hk => (f1 k (by omega) (by omega)).trans (f0 k hk)) (Or.inr ⟨by rw [f1 10 (by omega) (by omega)]; exact v0, fun a b a0 a1 a2 a3 => by rw [f1 13 (by omega) (by omega)]; exact w0 a b a0 a1 a2 a3⟩) key
    | succ r ih =>
      intro i M1 i0 hr f1 g01 gI gJ
      have hf1 : Fr8 D M1 := fun k k1 k2 => (f1 k (by omega) (by omega)).trans (hf0 k k1 k2)
      have hn1 : ND D M1 := fun a b a0 a1 a2 a3 => by rw [f1 13 (by omega) (by omega)]; exact w0 a b a0 a1 a2 a3
      have e1 : M1 1 7 = D 1 7 := congrFun (fr_1 hf1) 7
      have hc := g01 i i0 (by omega)
      have esm : ∀ (M2 : am_M), (∀ k, k ≤ i → M2 11 k = M1 11 k) → sm (M2 11) (i + 1).toNat = sm (M1 11) i.toNat + M1 11 i := by
        intro M2 h
        rw [show (i + 1).toNat = i.toNat + 1 by omega, sm_s]
        rw [sm_cg i.toNat (fun k k0 k1 => h k (by omega)), show ((i.toNat : Nat) : Int) = i by omega, h i (Int.le_refl _)]
      refine ⟨by unfold am_rg; omega, by unfold am_rg; omega, fun q => absurd q (by omega), fun _ => ⟨by omega, by unfold am_rg; omega, fun e => ?_, fun e => ⟨by unfold am_rg; omega, fun e2 => ?_, fun e2 => ?_⟩⟩⟩
      · have h := ih (i + 1) M1 (by omega) (by omega) f1 g01 (fun z => HI_n hd ho.1 (by omega) i0 (by omega) (fun y y1 h => absurd h.2.1 e) (gI z)) (fun z j j0 j1 => ?_)
        · rw [esm M1 (fun _ _ => rfl), show M1 11 i = 0 by omega, Int.add_zero] at h
          exact h
        · have hJ := gJ z
          have nch : ¬ ch D way o i := fun h => e ((JI_c hd hs (by omega) ho.1 hJ i0 (Int.le_refl _) (by omega)).mpr h)
          rw [hJ j j0 j1]
          constructor
          · rintro (a | a | ⟨i', a, b, d⟩)
            · exact Or.inl a
            · exact Or.inr (Or.inl a)
            · exact Or.inr (Or.inr ⟨i', by omega, b, d⟩)
          · rintro (a | a | ⟨i', a, b, d⟩)
            · exact Or.inl a
            · exact Or.inr (Or.inl a)
            · by_cases y : i' = i
              · rw [y] at b; exact absurd b nch
              · exact Or.inr (Or.inr ⟨i', by omega, b, d⟩)
      · have hJ := gJ e2
        have hch : ch D way o i := (JI_c hd hs (by omega) ho.1 hJ i0 (Int.le_refl _) (by omega)).mp (by omega)
        refine dp_joinBehind hd hs hf1 hn1 ho ⟨i0, by omega⟩ (by omega) (fun z k k0 k1 => by rw [f1 12 (by omega) (by omega)]; exact h12 z k k0 k1) (fun j hj => ?_) (fun hj => ?_)
        · have ji : i < j := hj.1.1.1
          have h := ih (i + 1) (am_up M1 11 j 1) (by omega) (by omega) (fun k k9 k11 => by rw [am_up_r k11]; exact f1 k k9 k11) (fun k k0 k1 => ?_) (fun z => absurd z e2) (fun _ j' j0 j1 => ?_)
          · rw [esm _ (fun k hk => am_up_n (by omega)), show M1 11 i = 1 by omega] at h
            exact h
          · by_cases z : k = j
            · rw [z, am_up_s]; exact Or.inr rfl
            · rw [am_up_n z]; exact g01 k k0 k1
          · by_cases z : j' = j
            · rw [z, am_up_s]
              exact ⟨fun _ => Or.inr (Or.inr ⟨i, by omega, hch, hj⟩), fun _ => rfl⟩
            · rw [am_up_n z, hJ j' j0 j1]
              constructor
              · rintro (a | a | ⟨i', a, b, d⟩)
                · exact Or.inl a
                · exact Or.inr (Or.inl a)
                · exact Or.inr (Or.inr ⟨i', by omega, b, d⟩)
              · rintro (a | a | ⟨i', a, b, d⟩)
                · exact Or.inl a
                · exact Or.inr (Or.inl a)
                · by_cases y : i' = i
                  · rw [y] at d; exact absurd (jl_u d hj) z
                  · exact Or.inr (Or.inr ⟨i', by omega, b, d⟩)
        · have h := ih (i + 1) M1 (by omega) (by omega) f1 g01 (fun z => absurd z e2) (fun _ j' j0 j1 => ?_)
          · rw [esm M1 (fun _ _ => rfl), show M1 11 i = 1 by omega] at h
            exact h
          · rw [hJ j' j0 j1]
            constructor
            · rintro (a | a | ⟨i', a, b, d⟩)
              · exact Or.inl a
              · exact Or.inr (Or.inl a)
              · exact Or.inr (Or.inr ⟨i', by omega, b, d⟩)
            · rintro (a | a | ⟨i', a, b, d⟩)
              · exact Or.inl a
              · exact Or.inr (Or.inl a)
              · by_cases y : i' = i
                · rw [y] at d; exact absurd d.1 (hj j')
                · exact Or.inr (Or.inr ⟨i', by omega, b, d⟩)
      · refine dp_halveBehind hd hs hf1 hn1 ho ⟨i0, by omega⟩ g01 (by omega) (gI (by omega)) (fun M2 f2 k01 kk kI => ?_)
        have h := ih (i + 1) M2 (by omega) (by omega) (fun k k9 k11 => (f2 k k9 k11).trans (f1 k k9 k11)) k01 (fun _ => kI) (fun z => absurd z (by omega))
        rw [esm M2 kk, show M1 11 i = 1 by omega] at h
        exact h
  have first : ∀ (M0 : am_M), Fc M M0 → M0 10 5 = 1 → ND D M0 → (way = 2 → ∀ k, 0 ≤ k → k < D 1 7 → M0 12 k = fw D o k) → ∀ (r : Nat) (i : Int) (M1 : am_M), 0 ≤ i → i + r = D 1 7 → Fcd M0 M1 → (∀ k, 0 ≤ k → k < i → (M1 11 k = 0 ∨ M1 11 k = 1) ∧ (M1 11 k = 1 ↔ bs D k ∨ es D k)) → wl_X4_choose_27 Q (r + 1) way o i M1 := by
    intro M0 f0 v0 w0 h12 r
    have hf0 := Fc_f hf f0
    induction r with
    | zero =>
      intro i M1 i0 hr f1 gk
      have e1 : M1 1 7 = D 1 7 := by rw [f1 1 (by omega) (by omega)]; exact congrFun (fr_1 hf0) 7
      refine ⟨by unfold am_rg; omega, by unfold am_rg; omega, fun _ => ⟨_, last M0 f0 v0 w0 h12 (D 1 7).toNat 0 M1 (by omega) (by omega) f1 (fun k k0 k1 => (gk k k0 (by omega)).1) (fun _ => HI_0 hs (fun k k0 k1 => (gk k k0 (by omega)).2)) (fun _ j j0 j1 => ?_)⟩, fun q => absurd q (by omega)⟩
      rw [(gk j j0 (by omega)).2]
      constructor
      · rintro (a | a)
        · exact Or.inr (Or.inl a)
        · exact Or.inl a
      · rintro (a | a | ⟨i', a, b, d⟩)
        · exact Or.inr a
        · exact Or.inl a
        · have := ch_r n0 b
          omega
    | succ r ih =>
      intro i M1 i0 hr f1 gk
      have hf1 : Fr8 D M1 := fun k k1 k2 => (f1 k (by omega) (by omega)).trans (hf0 k k1 k2)
      have e1 : M1 1 7 = D 1 7 := congrFun (fr_1 hf1) 7
      have put : ∀ x, (x = 0 ∨ x = 1) → (x = 1 ↔ bs D i ∨ es D i) → wl_X4_choose_27 Q (r + 1) way o (i + 1) (am_up M1 11 i x) := by
        intro x x01 hx
        refine ih (i + 1) _ (by omega) (by omega) (fun k k9 k11 => by rw [am_up_r k11]; exact f1 k k9 k11) (fun k k0 k1 => ?_)
        by_cases z : k = i
        · rw [z, am_up_s]; exact ⟨x01, hx⟩
        · rw [am_up_n z]; exact gk k k0 (by omega)
      refine ⟨by unfold am_rg; omega, by unfold am_rg; omega, fun q => absurd q (by omega), fun _ => ?_⟩
      refine dp_beginsStretch hd hs hf1 ⟨i0, by omega⟩ (fun y => ⟨by unfold am_rg; omega, fun _ => ⟨by omega, put 1 (Or.inr rfl) ⟨fun _ => Or.inl y, fun _ => rfl⟩⟩, fun e => absurd e (by omega)⟩) (fun y => ⟨by unfold am_rg; omega, fun e => absurd rfl e, fun _ => ?_⟩)
      refine dp_endsStretch hd hs hf1 ⟨i0, by omega⟩ (fun w => ⟨by unfold am_rg; omega, fun e => absurd e (by omega), fun _ => ⟨by omega, put 1 (Or.inr rfl) ⟨fun _ => Or.inr w, fun _ => rfl⟩⟩⟩) (fun w => ⟨by unfold am_rg; omega, fun _ => ⟨by omega, put 0 (Or.inl rfl) ⟨fun e => absurd e (by omega), fun e => by rcases e with e | e; exact absurd e y; exact absurd e w⟩⟩, fun e => absurd rfl e⟩)
  refine dp_findNeeds hd hs hf hv (fun M0 f0 v0 w0 _ _ => ?_)
  have hf0 := Fc_f hf f0
  have e6 : M0 6 0 = o := by rw [fr_6 hf0]; exact ho'
  rw [e6]
  refine ⟨by unfold am_rg; omega, fun z => ⟨_, first M0 f0 v0 w0 (fun e => absurd e z) (D 1 7).toNat 0 M0 (by omega) (by omega) (fun _ _ _ => rfl) (fun k k0 k1 => by omega)⟩, fun z => ?_⟩
  refine dp_findFewest hd hs hf0 w0 ho (fun M2 f2 g2 => ?_)
  exact ⟨_, first M2 (Fc_t f0 (Fc_x (by omega) f2)) (by rw [f2 10 (by omega)]; exact v0) (fun a b a0 a1 a2 a3 => by rw [f2 13 (by omega)]; exact w0 a b a0 a1 a2 a3) (fun _ => g2) (D 1 7).toNat 0 M2 (by omega) (by omega) (fun _ _ _ => rfl) (fun k k0 k1 => by omega)⟩
