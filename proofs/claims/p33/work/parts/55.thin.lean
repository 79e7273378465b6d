/-! thinning: two chosen that follow one another can be joined; never fewer than the fewest -/
theorem ch_le {D : am_M} (hs : OKs D) {way o : Int} (n0 : 0 ≤ D 1 7) : ∀ (r : Nat) (b : Int), b ≤ r → ch D way o b → ∀ a, ch D way o a → a < b → D 5 a = D 5 b → ∀ j, jl D way o a j → j ≤ b
  | 0, b, hr, hb, a, ha, hab, h5, j, hj => by
    have := ch_r n0 ha
    omega
  | r + 1, b, hr, hb, a, ha, hab, h5, j, hj => by
    have rb := ch_r n0 hb
    have ra' := ch_r n0 ha
    rcases ch_i hb with h | ⟨i, hi, hij⟩
    · exact absurd h5 (bs_no hs ra'.1 h hab rb.2)
    · obtain ⟨⟨⟨i1, i2, i3, -⟩, -⟩, -⟩ := id hij
      by_cases z : a < i
      · have := ch_le hs n0 r i (by omega) hi a ha z (by rw [h5, i3]) j hj
        omega
      · by_cases y : i < a
        · have := ch_le hs n0 r a (by omega) ha i hi y (by rw [i3, h5]) b hij
          omega
        · have e : a = i := by omega
          subst e
          rw [jl_u hj hij]
          omega
theorem ch_nx {c : Int} {D : am_M} (hd : OKd c D) (hs : OKs D) {way o i j : Int} (hw : way = 0 ∨ way = 2) (ho : 0 ≤ o) (hi : ch D way o i) (hj : ch D way o j) (h : i < j) (h5 : D 5 i = D 5 j) (hno : ∀ k, i < k → k < j → ¬ ch D way o k) : jl D way o i j := by
  have n := hd.1
  have ri := ch_r n.1 hi
  have rj := ch_r n.1 hj
  obtain ⟨j', hj'⟩ := jl_ex hd hs hw ho ri.1 h rj.2 h5
  obtain ⟨⟨⟨i1, i2, i3, -⟩, -⟩, -⟩ := id hj'
  have h1 := ch_le hs n.1 j.toNat j (by omega) hj i hi h h5 j' hj'
  have h2 : ¬ j' < j := fun z => hno j' i1 z (ch_j hi hj')
  have : j' = j := by omega
  rw [← this]
  exact hj'
theorem hS_nx {c : Int} {D : am_M} (hd : OKd c D) {o : Int} (ho : 0 ≤ o) : ∀ (r : Nat) (x y : Int), y - x ≤ r → 0 ≤ x → x < y → y < D 1 7 → ∀ a b, x ≤ a → a < b → b ≤ y → (a = x ∨ hS D o x y a) → (b = y ∨ hS D o x y b) → (∀ k, a < k → k < b → ¬ hS D o x y k) → jn D a b o
  | 0, x, y, h, h0, h1, h2, a, b, xa, ab, by', ha, hb, hno => by omega
  | r + 1, x, y, h, h0, h1, h2, a, b, xa, ab, by', ha, hb, hno => by
    have eq := fun k => hS_eq hd (o := o) (k := k) ho h0 h1 h2
    by_cases hj : jn D x y o
    · have ea : a = x := ha.resolve_right (fun z => ((eq a).mp z).1 hj)
      have ey : b = y := hb.resolve_right (fun z => ((eq b).mp z).1 hj)
      rw [ea, ey]; exact hj
    · obtain ⟨w1, w2⟩ := wst_b hd ho h0 h1 h2 hj
      have hw : hS D o x y (wst D x y) := (eq _).mpr ⟨hj, Or.inl rfl⟩
      have lo' : ∀ k, hS D o x (wst D x y) k → hS D o x y k := fun k z => (eq k).mpr ⟨hj, Or.inr (Or.inl z)⟩
      have hi' : ∀ k, hS D o (wst D x y) y k → hS D o x y k := fun k z => (eq k).mpr ⟨hj, Or.inr (Or.inr z)⟩
      by_cases z : b ≤ wst D x y
      · refine hS_nx hd ho r x (wst D x y) (by omega) h0 w1 (by omega) a b xa ab z ?_ ?_ (fun k k0 k1 y => hno k k0 k1 (lo' k y))
        · refine ha.imp id (fun q => ?_)
          rcases ((eq a).mp q).2 with q | q | q
          · omega
          · exact q
          · have := hS_b hd ho (by omega) w2 h2 q; omega
        · by_cases e : b = wst D x y
          · exact Or.inl e
          · refine Or.inr ?_
            rcases hb with q | q
            · omega
            · rcases ((eq b).mp q).2 with q | q | q
              · exact absurd q e
              · exact q
              · have := hS_b hd ho (by omega) w2 h2 q; omega
      · have z2 : wst D x y ≤ a := Classical.byContradiction (fun q => hno _ (by omega) (by omega) hw)
        refine hS_nx hd ho r (wst D x y) y (by omega) (by omega) w2 h2 a b z2 ab by' ?_ ?_ (fun k k0 k1 y => hno k k0 k1 (hi' k y))
        · by_cases e : a = wst D x y
          · exact Or.inl e
          · refine Or.inr ?_
            rcases ha with q | q
            · omega
            · rcases ((eq a).mp q).2 with q | q | q
              · exact absurd q e
              · have := hS_b hd ho h0 w1 (by omega) q; omega
              · exact q
        · refine hb.imp id (fun q => ?_)
          rcases ((eq b).mp q).2 with q | q | q
          · omega
          · have := hS_b hd ho h0 w1 (by omega) q; omega
          · exact q
theorem FH_nx {c : Int} {D : am_M} (hd : OKd c D) (hs : OKs D) {o i j : Int} (ho : 0 ≤ o) (i0 : 0 ≤ i) (h : i < j) (j1 : j < D 1 7) (hi : FH D o i) (hj : FH D o j) (h5 : D 5 i = D 5 j) (hno : ∀ k, i < k → k < j → ¬ FH D o k) : jn D i j o := by
  obtain ⟨x, x0, x1, x2, x3⟩ := bs_ex (D := D) i.toNat i (by omega) i0
  obtain ⟨y, y0, y1, y2, y3⟩ := es_ex (D := D) (D 1 7 - j).toNat j (by omega) (by omega) j1
  have ux : ∀ x', 0 ≤ x' → x' < D 1 7 → bs D x' → D 5 x' = D 5 i → x' = x := fun x' a0 a1 b e => by
    by_cases z : x' < x
    · exact absurd (e.trans x3.symm) (bs_no hs a0 x2 z (by omega))
    · by_cases z2 : x < x'
      · exact absurd (x3.trans e.symm) (bs_no hs x0 b z2 a1)
      · omega
  have uy : ∀ y', 0 ≤ y' → y' < D 1 7 → es D y' → D 5 y' = D 5 j → y' = y := fun y' a0 a1 b e => by
    by_cases z : y' < y
    · exact absurd (e.trans y3.symm) (es_no hs a0 b z y1)
    · by_cases z2 : y < y'
      · exact absurd (y3.trans e.symm) (es_no hs (by omega) y2 z2 a1)
      · omega
  refine hS_nx hd ho (y - x).toNat x y (by omega) x0 (by omega) y1 i j x1 h y0 ?_ ?_ (fun k k0 k1 z => hno k k0 k1 (Or.inr (Or.inr ⟨x, y, x0, y1, x2, y2, by rw [x3, y3]; exact h5, by omega, by omega, z⟩)))
  · rcases hi with q | q | ⟨x', y', q1, q2, q3, q4, q5, q6, q7, q8⟩
    · exact Or.inl (ux i i0 (by omega) q rfl)
    · exact absurd h5 (es_no hs i0 q h j1)
    · have e1 := st_eq hs (i := x') (k := i) (j := y') q1 (by omega) (by omega) q2 q5
      have e2 := ux x' q1 (by omega) q3 e1.symm
      have e3 := uy y' (by omega) q2 q4 (by rw [← q5, ← e1, h5])
      rw [e2, e3] at q8
      exact Or.inr q8
  · rcases hj with q | q | ⟨x', y', q1, q2, q3, q4, q5, q6, q7, q8⟩
    · exact absurd h5 (bs_no hs i0 q h j1)
    · exact Or.inl (uy j (by omega) j1 q rfl)
    · have e1 := st_eq hs (i := x') (k := j) (j := y') q1 (by omega) (by omega) q2 q5
      have e2 := ux x' q1 (by omega) q3 (by rw [← e1, h5])
      have e3 := uy y' (by omega) q2 q4 (by rw [← q5, ← e1])
      rw [e2, e3] at q8
      exact Or.inr q8
/-- what is chosen, as a row -/
noncomputable def cw (D : am_M) (w o : Int) : Int → Int := fun k => pi1 (CH D w o k)
theorem cw_1 {D : am_M} {w o k : Int} : cw D w o k = 1 ↔ CH D w o k := pi1_1
theorem cw_CN {c : Int} {D : am_M} (hd : OKd c D) (hs : OKs D) {w o : Int} (hw : 0 ≤ w ∧ w ≤ 2) (ho : 0 ≤ o) : CN D (cw D w o) := by
  refine ⟨fun i _ _ => pi1_b _, fun i i0 i1 hb => cw_1.mpr ?_, fun i i0 i1 he => cw_1.mpr ?_⟩
  · by_cases z : w = 1
    · exact Or.inl ⟨z, Or.inl hb⟩
    · exact Or.inr ⟨z, ch_b i0 i1 hb⟩
  · by_cases z : w = 1
    · exact Or.inl ⟨z, Or.inr (Or.inl he)⟩
    · exact Or.inr ⟨z, ch_e hd hs (by omega) ho i0 i1 he⟩
theorem cw_jl {c : Int} {D : am_M} (hd : OKd c D) (hs : OKs D) {w o i j : Int} (hw : w = 0 ∨ w = 2) (ho : 0 ≤ o) (h : nxt D (cw D w o) i j) : jl D w o i j := by
  obtain ⟨i0, h1, h2, h3, h4, h5, h6⟩ := h
  have g : ∀ k, cw D w o k = 1 → ch D w o k := fun k z => ((cw_1.mp z).resolve_left (fun y => by omega)).2
  exact ch_nx hd hs hw ho (g i h3) (g j h4) h1 h5 (fun k k0 k1 z => h6 k k0 k1 (cw_1.mpr (Or.inr ⟨by omega, z⟩)))
theorem cw_jn {c : Int} {D : am_M} (hd : OKd c D) (hs : OKs D) {w o i j : Int} (hw : 0 ≤ w ∧ w ≤ 2) (ho : 0 ≤ o) (h : nxt D (cw D w o) i j) : jn D i j o := by
  by_cases z : w = 1
  · subst z
    obtain ⟨i0, h1, h2, h3, h4, h5, h6⟩ := h
    have g : ∀ k, cw D 1 o k = 1 → FH D o k := fun k z => ((cw_1.mp z).resolve_right (fun y => y.1 rfl)).2
    exact FH_nx hd hs ho i0 h1 h2 (g i h3) (g j h4) h5 (fun k k0 k1 z => h6 k k0 k1 (cw_1.mpr (Or.inl ⟨rfl, z⟩)))
  · obtain ⟨⟨⟨-, -, -, h4⟩, -⟩, -⟩ := cw_jl hd hs (by omega) ho h
    exact h4
theorem chn_ge {c : Int} {D : am_M} (hd : OKd c D) (hs : OKs D) {w o : Int} (hw : 0 ≤ w ∧ w ≤ 2) (ho : 0 ≤ o) : fwS D o ≤ chn D w o := by
  have n := hd.1
  have h := cn_all n.1 hs (o := o) (σ := 1) (Or.inl rfl) (cw_CN hd hs hw ho) (fun i j hn => by
    have hj := cw_jn hd hs hw ho hn
    obtain ⟨i0, h1, h2, h3, h4, h5, h6⟩ := hn
    rcases fw_s D o i i0 (by omega) with ⟨x, y⟩ | ⟨k, x, y, z⟩
    · exact absurd ⟨h1, h2, h5, hj⟩ (x j)
    · have := z j ⟨h1, h2, h5, hj⟩
      omega)
  have e : chn D w o = sm (cw D w o) (D 1 7).toNat := rfl
  rw [e]
  omega
theorem chn_2 {c : Int} {D : am_M} (hd : OKd c D) (hs : OKs D) {o : Int} (ho : 0 ≤ o) : chn D 2 o = fwS D o := by
  have n := hd.1
  have h1 := chn_ge hd hs (w := 2) (by omega) ho
  have h := cn_all n.1 hs (o := o) (σ := -1) (Or.inr rfl) (cw_CN hd hs (w := 2) (by omega) ho) (fun i j hn => by
    obtain ⟨⟨-, h4⟩, -⟩ := cw_jl hd hs (Or.inr rfl) ho hn
    rcases h4 with h4 | h4
    · omega
    · omega)
  have e : chn D 2 o = sm (cw D 2 o) (D 1 7).toNat := rfl
  rw [e] at h1 ⊢
  omega
/-- a diary that is kept as such a choice has it: nothing is broken -/
theorem no_bk {c c' : Int} {A B : am_M} (hA : OKd c' A) (hsA : OKs A) (hB : OKd c B) (hsB : OKs B) (g : Rg A B) {w o : Int} (hw : 0 ≤ w ∧ w ≤ 2) (ho : o = A 6 0) (h4 : ∀ i, 0 ≤ i → i < B 1 7 → A 4 i = cw B w o i) : ∀ p, 0 ≤ p → p < A 1 7 → ¬ bk A p := by
  intro p p0 p1 hb
  have hA' := hA
  obtain ⟨-, -, -, o1, -⟩ := hA'
  rw [g.1] at p1
  have ho0 : 0 ≤ o := by omega
  obtain ⟨c1, c2, c3⟩ := cw_CN hB hsB hw ho0
  have e5 : ∀ i, 0 ≤ i → i < B 1 7 → A 5 i = B 5 i := fun i i0 i1 => (g.2.1 i i0 i1).2.2
  obtain ⟨hk, hn⟩ := hb
  have hk2 : cw B w o p ≠ 1 := by rw [← h4 p p0 p1]; exact hk
  obtain ⟨x, x0, x1, x2, x3⟩ := bs_ex (D := B) p.toNat p (by omega) p0
  obtain ⟨y, y0, y1, y2, y3⟩ := es_ex (D := B) (B 1 7 - p).toNat p (by omega) p0 p1
  have hx : A 4 x = 1 := by rw [h4 x x0 (by omega)]; exact c2 x x0 (by omega) x2
  have hy : A 4 y = 1 := by rw [h4 y (by omega) y1]; exact c3 y (by omega) y1 y2
  have nx' : x ≠ p := fun e => hk (by rw [← e]; exact hx)
  have ny' : y ≠ p := fun e => hk (by rw [← e]; exact hy)
  have he : ek A p ≠ -1 := ek_ex hsA x0 (by omega) (by rw [g.1]; exact p1) hx (by rw [e5 x x0 (by omega), e5 p p0 p1, x3])
  have hl : lk A p ≠ -1 := lk_ex hsA p0 (by omega) (by rw [g.1]; exact y1) hy (by rw [e5 y (by omega) y1, e5 p p0 p1, y3])
  obtain ⟨a1, a2⟩ := ek_n (D := A) p0
  obtain ⟨b1, b2⟩ := lk_n (D := A) p0 (by rw [g.1]; exact p1)
  obtain ⟨a3, a4, a5, a6⟩ := a1.resolve_left he
  obtain ⟨b3, b4, b5, b6⟩ := b1.resolve_left hl
  have b4' := b4
  rw [g.1] at b4'
  have hnx : nxt B (cw B w o) (ek A p) (lk A p) := by
    refine ⟨a3, by omega, b4', ?_, ?_, ?_, fun k k0 k1 => ?_⟩
    · rw [← h4 _ a3 (by omega)]; exact a5
    · rw [← h4 _ (by omega) b4']; exact b5
    · rw [← e5 _ a3 (by omega), ← e5 _ (by omega) b4', a6, b6]
    · rw [← h4 k (by omega) (by omega)]
      by_cases z : k < p
      · exact a2 k he k0 z
      · by_cases z2 : p < k
        · exact b2 k hl z2 k1
        · rw [show k = p by omega]; exact hk
  have hj := (jn_rg g a3 (by omega) b4').mpr (cw_jn hB hsB hw ho0 hnx)
  rw [ho] at hj
  exact hn ⟨he, hl, jn_mi hA o1.1 a3 a4 b3 b4 hj⟩
