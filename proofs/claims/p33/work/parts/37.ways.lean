/-! the three ways -/
def jp (D : am_M) (way o i j : Int) : Prop := jo D o i j ∧ (way = 0 ∨ fw D o j + 1 = fw D o i)
def jl (D : am_M) (way o i j : Int) : Prop := jp D way o i j ∧ ∀ k, j < k → ¬ jp D way o i k
def ch (D : am_M) (way o j : Int) : Prop := ∀ S : Int → Prop, (∀ i, 0 ≤ i → i < D 1 7 → bs D i → S i) → (∀ i j, S i → jl D way o i j → S j) → S j
theorem ch_b {D : am_M} {way o j : Int} (h0 : 0 ≤ j) (h1 : j < D 1 7) (h : bs D j) : ch D way o j := fun _ a _ => a j h0 h1 h
theorem ch_j {D : am_M} {way o i j : Int} (h : ch D way o i) (g : jl D way o i j) : ch D way o j := fun S a b => b i j (h S a b) g
theorem ch_i {D : am_M} {way o j : Int} (h : ch D way o j) : bs D j ∨ ∃ i, ch D way o i ∧ jl D way o i j := by
  have := h (fun j => ch D way o j ∧ (bs D j ∨ ∃ i, ch D way o i ∧ jl D way o i j)) (fun i i0 i1 hb => ⟨ch_b i0 i1 hb, Or.inl hb⟩) (fun i j hi hj => ⟨ch_j hi.1 hj, Or.inr ⟨i, hi.1, hj⟩⟩)
  exact this.2
theorem ch_r {D : am_M} {way o j : Int} (n0 : 0 ≤ D 1 7) (h : ch D way o j) : 0 ≤ j ∧ j < D 1 7 :=
  h (fun j => 0 ≤ j ∧ j < D 1 7) (fun i i0 i1 _ => ⟨i0, i1⟩) (fun i j hi hj => ⟨by have := hj.1.1.1; omega, hj.1.1.2.1⟩)
theorem mx_ex {P : Int → Prop} {n : Int} (hb : ∀ k, P k → k < n) : ∀ (r : Nat) (k : Int), P k → n - k ≤ r → ∃ j, P j ∧ ∀ k, j < k → ¬ P k
  | 0, k, hk, hr => by have := hb k hk; omega
  | r + 1, k, hk, hr => by
    by_cases h : ∃ k', k < k' ∧ P k'
    · obtain ⟨k', a, b⟩ := h
      exact mx_ex hb r k' b (by omega)
    · exact ⟨k, hk, fun k' a b => h ⟨k', a, b⟩⟩
theorem jl_ex {c : Int} {D : am_M} (hd : OKd c D) (hs : OKs D) {way o i k : Int} (hw : way = 0 ∨ way = 2) (ho : 0 ≤ o) (h0 : 0 ≤ i) (h1 : i < k) (h2 : k < D 1 7) (h3 : D 5 i = D 5 k) : ∃ j, jl D way o i j := by
  have hj : ∃ j, jp D way o i j := by
    have a1 := st_m hs (i := i) (j := i + 1) h0 (by omega) (by omega)
    have a2 := st_m hs (i := i + 1) (j := k) (by omega) (by omega) h2
    have hj := jo_adj hd h0 (by omega) (by omega) ho
    rcases hw with hw | hw
    · exact ⟨i + 1, hj, Or.inl hw⟩
    · rcases fw_s D o i h0 (by omega) with ⟨h, -⟩ | ⟨j, g1, g2, -⟩
      · exact absurd hj (h _)
      · exact ⟨j, g1, Or.inr (by omega)⟩
  obtain ⟨j, hj⟩ := hj
  obtain ⟨j', a, b⟩ := mx_ex (P := jp D way o i) (n := D 1 7) (fun k h => h.1.2.1) (D 1 7 - j).toNat j hj (by omega)
  exact ⟨j', a, b⟩
theorem jl_u {D : am_M} {way o i j j' : Int} (h : jl D way o i j) (g : jl D way o i j') : j = j' := by
  by_cases a : j < j'
  · exact absurd g.1 (h.2 j' a)
  · by_cases b : j' < j
    · exact absurd h.1 (g.2 j b)
    · omega
theorem st_eq {D : am_M} (hs : OKs D) {i k j : Int} (h0 : 0 ≤ i) (h1 : i ≤ k) (h2 : k ≤ j) (h3 : j < D 1 7) (h : D 5 i = D 5 j) : D 5 k = D 5 i := by
  have a := st_m hs (i := i) (j := k) h0 h1 (by omega)
  have b := st_m hs (i := k) (j := j) (by omega) h2 h3
  omega
theorem bs_ex {D : am_M} : ∀ (r : Nat) (j : Int), j ≤ r → 0 ≤ j → ∃ x, 0 ≤ x ∧ x ≤ j ∧ bs D x ∧ D 5 x = D 5 j
  | 0, j, hr, h0 => ⟨j, h0, Int.le_refl _, Or.inl (by omega), rfl⟩
  | r + 1, j, hr, h0 => by
    by_cases hb : bs D j
    · exact ⟨j, h0, Int.le_refl _, hb, rfl⟩
    · unfold bs at hb
      obtain ⟨x, a, b, d, e⟩ := bs_ex (D := D) r (j - 1) (by omega) (by omega)
      exact ⟨x, a, by omega, d, by omega⟩
/-- behind an end there is none of its stretch -/
theorem es_no {D : am_M} (hs : OKs D) {j k : Int} (h0 : 0 ≤ j) (he : es D j) (h1 : j < k) (h2 : k < D 1 7) : D 5 j ≠ D 5 k := by
  intro h
  have := st_eq hs (i := j) (k := j + 1) (j := k) h0 (by omega) (by omega) h2 h
  unfold es at he
  omega
theorem bs_no {D : am_M} (hs : OKs D) {j k : Int} (h0 : 0 ≤ k) (he : bs D j) (h1 : k < j) (h2 : j < D 1 7) : D 5 k ≠ D 5 j := by
  intro h
  have := st_eq hs (i := k) (k := j - 1) (j := j) h0 (by omega) (by omega) h2 h
  unfold bs at he
  omega
theorem ch_e {c : Int} {D : am_M} (hd : OKd c D) (hs : OKs D) {way o j : Int} (hw : way = 0 ∨ way = 2) (ho : 0 ≤ o) (h0 : 0 ≤ j) (h1 : j < D 1 7) (he : es D j) : ch D way o j := by
  have walk : ∀ (r : Nat) (i : Int), j - i ≤ r → 0 ≤ i → i ≤ j → D 5 i = D 5 j → ch D way o i → ch D way o j := by
    intro r
    induction r with
    | zero =>
      intro i hr i0 i1 e hc
      rw [show j = i by omega]; exact hc
    | succ r ih =>
      intro i hr i0 i1 e hc
      by_cases z : i = j
      · rw [← z]; exact hc
      · obtain ⟨k, hk⟩ := jl_ex hd hs hw ho i0 (by omega : i < j) h1 e
        have hk1 := hk.1.1
        have e2 := hk1.2.2.1
        have : k ≤ j := by
          by_cases y : k ≤ j
          · exact y
          · exact absurd (by omega) (es_no hs h0 he (by omega : j < k) hk1.2.1)
        exact ih k (by have := hk1.1; omega) (by have := hk1.1; omega) this (by omega) (ch_j hc hk)
  obtain ⟨x, a, b, d, e⟩ := bs_ex (D := D) j.toNat j (by omega) h0
  exact walk (j - x).toNat x (by omega) a b e (ch_b a (by omega) d)
/-! halves -/
theorem wi_b {c : Int} {D : am_M} (hd : OKd c D) {a b : Int} (h0 : 0 ≤ a) (h1 : a < b) (h2 : b < D 1 7) : ∀ m : Nat, a + 1 + (m : Int) ≤ b → (sp_wi D a b m = -1000000 ∧ m = 0) ∨ (a < sp_wi D a b m ∧ sp_wi D a b m < a + 1 + (m : Int) ∧ 0 ≤ sp_mx D a b m)
  | 0, _ => Or.inl ⟨rfl, rfl⟩
  | m + 1, hm => by
    have ih := wi_b hd h0 h1 h2 m (by omega)
    have hk := mi_b hd h0 h1 h2 (k := a + 1 + (m : Int)) (by omega) (by omega)
    rw [wi_s, mx_s]
    by_cases z : sp_mx D a b m < sp_mi D a b (a + 1 + (m : Int))
    · rw [if_pos z, if_pos z]
      exact Or.inr ⟨by omega, by omega, hk.1⟩
    · rw [if_neg z, if_neg z]
      rcases ih with ⟨e1, e2⟩ | ih
      · subst e2
        unfold sp_mx at z
        omega
      · exact Or.inr ⟨ih.1, by omega, ih.2.2⟩
def wst (D : am_M) (a b : Int) : Int := sp_wi D a b (b - a - 1).toNat
theorem wst_b {c : Int} {D : am_M} (hd : OKd c D) {a b o : Int} (ho : 0 ≤ o) (h0 : 0 ≤ a) (h1 : a < b) (h2 : b < D 1 7) (hj : ¬ jn D a b o) : a < wst D a b ∧ wst D a b < b := by
  have hw := wi_b hd h0 h1 h2 (b - a - 1).toNat (by omega)
  have hs := span_b hd h0 h1 h2
  have hp := Int.mul_nonneg ho (show 0 ≤ sp_span D a b by omega)
  unfold wst
  rcases hw with ⟨e1, e2⟩ | hw
  · refine absurd ?_ hj
    unfold jn
    rw [e2]
    unfold sp_mx
    omega
  · omega
def hv (D : am_M) (o : Int) : Nat → Int → Int → Int → Prop
  | 0, _, _, _ => False
  | r + 1, a, b, k => ¬ jn D a b o ∧ (k = wst D a b ∨ hv D o r a (wst D a b) k ∨ hv D o r (wst D a b) b k)
theorem hv_fu {c : Int} {D : am_M} (hd : OKd c D) {o k : Int} (ho : 0 ≤ o) : ∀ (r s : Nat) (a b : Int), b - a ≤ r → b - a ≤ s → 0 ≤ a → a < b → b < D 1 7 → (hv D o r a b k ↔ hv D o s a b k)
  | 0, s, a, b, h1, _, _, h4, _ => by omega
  | r + 1, 0, a, b, h1, _, _, h4, _ => by omega
  | r + 1, s + 1, a, b, h1, h2, h3, h4, h5 => by
    unfold hv
    by_cases hj : jn D a b o
    · exact ⟨fun h => absurd hj h.1, fun h => absurd hj h.1⟩
    · have hw := wst_b hd ho h3 h4 h5 hj
      have a1 := hv_fu hd (k := k) ho r s a (wst D a b) (by omega) (by omega) h3 hw.1 (by omega)
      have a2 := hv_fu hd (k := k) ho r s (wst D a b) b (by omega) (by omega) (by omega) hw.2 h5
      rw [a1, a2]
def hS (D : am_M) (o a b k : Int) : Prop := hv D o (b - a).toNat a b k
theorem hS_eq {c : Int} {D : am_M} (hd : OKd c D) {o a b k : Int} (ho : 0 ≤ o) (h0 : 0 ≤ a) (h1 : a < b) (h2 : b < D 1 7) : hS D o a b k ↔ ¬ jn D a b o ∧ (k = wst D a b ∨ hS D o a (wst D a b) k ∨ hS D o (wst D a b) b k) := by
  unfold hS
  obtain ⟨r, hr⟩ : ∃ r, (b - a).toNat = r + 1 := ⟨(b - a).toNat - 1, by omega⟩
  rw [hr]
  by_cases hj : jn D a b o
  · unfold hv
    exact ⟨fun h => absurd hj h.1, fun h => absurd hj h.1⟩
  · have hw := wst_b hd ho h0 h1 h2 hj
    have a1 := hv_fu hd (k := k) ho r (wst D a b - a).toNat a (wst D a b) (by omega) (by omega) h0 hw.1 (by omega)
    have a2 := hv_fu hd (k := k) ho r (b - wst D a b).toNat (wst D a b) b (by omega) (by omega) (by omega) hw.2 h2
    rw [← a1, ← a2]
    exact Iff.rfl
theorem hv_b {c : Int} {D : am_M} (hd : OKd c D) {o k : Int} (ho : 0 ≤ o) : ∀ (r : Nat) (a b : Int), 0 ≤ a → a < b → b < D 1 7 → hv D o r a b k → a < k ∧ k < b
  | 0, a, b, _, _, _, h => absurd h (by unfold hv; exact id)
  | r + 1, a, b, h0, h1, h2, h => by
    unfold hv at h
    have hw := wst_b hd ho h0 h1 h2 h.1
    rcases h.2 with e | e | e
    · omega
    · have := hv_b hd ho r a (wst D a b) h0 hw.1 (by omega) e
      omega
    · have := hv_b hd ho r (wst D a b) b (by omega) hw.2 h2 e
      omega
theorem hS_b {c : Int} {D : am_M} (hd : OKd c D) {o a b k : Int} (ho : 0 ≤ o) (h0 : 0 ≤ a) (h1 : a < b) (h2 : b < D 1 7) (h : hS D o a b k) : a < k ∧ k < b := hv_b hd ho _ a b h0 h1 h2 h
def FH (D : am_M) (o k : Int) : Prop := bs D k ∨ es D k ∨ ∃ x y, 0 ≤ x ∧ y < D 1 7 ∧ bs D x ∧ es D y ∧ D 5 x = D 5 y ∧ x < k ∧ k < y ∧ hS D o x y k
/-- y is the next chosen one behind x -/
def nx (c : Int → Int) (x y : Int) : Prop := x < y ∧ c x = 1 ∧ c y = 1 ∧ ∀ z, x < z → z < y → c z ≠ 1
def HI (D : am_M) (o lo hi : Int) (c : Int → Int) (a : Int) : Prop := ∀ k, lo ≤ k → k ≤ hi → (FH D o k ↔ c k = 1 ∨ ∃ x y, a ≤ x ∧ y ≤ hi ∧ nx c x y ∧ D 5 x = D 5 y ∧ x < k ∧ k < y ∧ hS D o x y k)
theorem HI_c {q : Int} {D : am_M} (hd : OKd q D) {o lo hi a b : Int} {c c' : Int → Int} (ho : 0 ≤ o) (h0 : 0 ≤ lo) (h1 : lo ≤ a) (h2 : b ≤ hi) (h3 : hi < D 1 7) (hn : nx c a b) (he : D 5 a = D 5 b) (hj : ¬ jn D a b o) (e1 : c' (wst D a b) = 1) (e2 : ∀ k, k ≠ wst D a b → c' k = c k) (h : HI D o lo hi c a) : D 5 (wst D a b) = D 5 a → HI D o lo hi c' a := by
  intro hw5 k k0 k1
  obtain ⟨hab, ca, cb, cn⟩ := hn
  have hw := wst_b hd ho (by omega : 0 ≤ a) hab (by omega) hj
  have heq := hS_eq hd (k := k) ho (by omega : 0 ≤ a) hab (by omega : b < D 1 7)
  rw [h k k0 k1]
  constructor
  · rintro (hk | ⟨x, y, x0, y0, ⟨xy, cx, cy, cz⟩, e5, xk, ky, hs⟩)
    · refine Or.inl ?_
      by_cases z : k = wst D a b
      · rw [z]; exact e1
      · rw [e2 k z]; exact hk
    · by_cases z : x = a
      · subst z
        have ey : y = b := by
          by_cases y1 : y < b
          · exact absurd cy (cn y xy y1)
          · by_cases y2 : b < y
            · exact absurd cb (cz b hab y2)
            · omega
        subst ey
        rcases (heq.mp hs).2 with g | g | g
        · exact Or.inl (by rw [g]; exact e1)
        · have gb := hS_b hd ho (by omega : 0 ≤ x) hw.1 (by omega) g
          refine Or.inr ⟨x, wst D x y, x0, by omega, ⟨hw.1, by rw [e2 x (by omega)]; exact cx, e1, fun z z0 z1 => by rw [e2 z (by omega)]; exact cz z z0 (by omega)⟩, by omega, gb.1, gb.2, g⟩
        · have gb := hS_b hd ho (by omega : 0 ≤ wst D x y) hw.2 (by omega) g
          refine Or.inr ⟨wst D x y, y, by omega, by omega, ⟨hw.2, e1, by rw [e2 y (by omega)]; exact cy, fun z z0 z1 => by rw [e2 z (by omega)]; exact cz z (by omega) z1⟩, by omega, gb.1, gb.2, g⟩
      · have xb : b ≤ x := by
          by_cases y1 : x < b
          · exact absurd cx (cn x (by omega) y1)
          · omega
        exact Or.inr ⟨x, y, x0, y0, ⟨xy, by rw [e2 x (by omega)]; exact cx, by rw [e2 y (by omega)]; exact cy, fun z z0 z1 => by rw [e2 z (by omega)]; exact cz z z0 z1⟩, e5, xk, ky, hs⟩
  · rintro (hk | ⟨x, y, x0, y0, ⟨xy, cx, cy, cz⟩, e5, xk, ky, hs⟩)
    · by_cases z : k = wst D a b
      · exact Or.inr ⟨a, b, Int.le_refl _, h2, ⟨hab, ca, cb, cn⟩, he, by omega, by omega, heq.mpr ⟨hj, Or.inl z⟩⟩
      · exact Or.inl (by rw [← e2 k z]; exact hk)
    · by_cases z : x = a
      · subst z
        have ey : y = wst D x b := by
          by_cases y1 : y < wst D x b
          · rw [e2 y (by omega)] at cy
            exact absurd cy (cn y xy (by omega))
          · by_cases y2 : wst D x b < y
            · exact absurd e1 (cz _ hw.1 y2)
            · omega
        rw [ey] at hs ky
        exact Or.inr ⟨x, b, Int.le_refl _, h2, ⟨hab, ca, cb, cn⟩, he, xk, by omega, heq.mpr ⟨hj, Or.inr (Or.inl hs)⟩⟩
      · by_cases z2 : x = wst D a b
        · have ey : y = b := by
            by_cases y1 : y < b
            · rw [e2 y (by omega)] at cy
              exact absurd cy (cn y (by omega) y1)
            · by_cases y2 : b < y
              · exact absurd (by rw [e2 b (by omega)]; exact cb) (cz b (by omega) y2)
              · omega
          rw [ey] at hs ky
          rw [z2] at hs xk
          exact Or.inr ⟨a, b, Int.le_refl _, h2, ⟨hab, ca, cb, cn⟩, he, by omega, ky, heq.mpr ⟨hj, Or.inr (Or.inr hs)⟩⟩
        · rw [e2 x z2] at cx
          have xb : b ≤ x := by
            by_cases y1 : x < b
            · exact absurd cx (cn x (by omega) y1)
            · omega
          rw [e2 y (by omega)] at cy
          exact Or.inr ⟨x, y, x0, y0, ⟨xy, cx, cy, fun z z0 z1 => by rw [← e2 z (by omega)]; exact cz z z0 z1⟩, e5, xk, ky, hs⟩
theorem HI_n {q : Int} {D : am_M} (hd : OKd q D) {o lo hi a : Int} {c : Int → Int} (ho : 0 ≤ o) (h0 : 0 ≤ lo) (h1 : lo ≤ a) (h3 : hi < D 1 7) (hj : ∀ y, y ≤ hi → nx c a y → D 5 a = D 5 y → jn D a y o) (h : HI D o lo hi c a) : HI D o lo hi c (a + 1) := by
  intro k k0 k1
  rw [h k k0 k1]
  constructor
  · rintro (hk | ⟨x, y, x0, y0, hn, e5, xk, ky, hs⟩)
    · exact Or.inl hk
    · by_cases z : x = a
      · subst z
        exact absurd (hj y y0 hn e5) ((hS_eq hd ho (by omega) hn.1 (by omega)).mp hs).1
      · exact Or.inr ⟨x, y, by omega, y0, hn, e5, xk, ky, hs⟩
  · rintro (hk | ⟨x, y, x0, y0, hn, e5, xk, ky, hs⟩)
    · exact Or.inl hk
    · exact Or.inr ⟨x, y, by omega, y0, hn, e5, xk, ky, hs⟩
theorem HI_e {D : am_M} {o lo hi a : Int} {c : Int → Int} (ha : hi ≤ a) (h : HI D o lo hi c a) {k : Int} (k0 : lo ≤ k) (k1 : k ≤ hi) : FH D o k ↔ c k = 1 := by
  rw [h k k0 k1]
  constructor
  · rintro (hk | ⟨x, y, x0, y0, hn, e5, xk, ky, hs⟩)
    · exact hk
    · have := hn.1; omega
  · exact Or.inl
theorem HI_0 {D : am_M} (hs : OKs D) {o : Int} {c : Int → Int} (hc : ∀ k, 0 ≤ k → k < D 1 7 → (c k = 1 ↔ bs D k ∨ es D k)) : HI D o 0 (D 1 7 - 1) c 0 := by
  intro k k0 k1
  constructor
  · rintro (h | h | ⟨x, y, x0, y0, bx, ey, e5, xk, ky, h⟩)
    · exact Or.inl ((hc k k0 (by omega)).mpr (Or.inl h))
    · exact Or.inl ((hc k k0 (by omega)).mpr (Or.inr h))
    · refine Or.inr ⟨x, y, x0, by omega, ⟨by omega, (hc x x0 (by omega)).mpr (Or.inl bx), (hc y (by omega) y0).mpr (Or.inr ey), fun z z0 z1 hz => ?_⟩, e5, xk, ky, h⟩
      have ez := st_eq hs (i := x) (k := z) (j := y) x0 (by omega) (by omega) y0 e5
      rcases (hc z (by omega) (by omega)).mp hz with b | e
      · exact bs_no hs x0 b z0 (by omega) (by omega)
      · exact es_no hs (by omega) e z1 y0 (by omega)
  · rintro (h | ⟨x, y, x0, y0, ⟨xy, cx, cy, cz⟩, e5, xk, ky, h⟩)
    · rcases (hc k k0 (by omega)).mp h with b | e
      · exact Or.inl b
      · exact Or.inr (Or.inl e)
    · refine Or.inr (Or.inr ⟨x, y, x0, by omega, ?_, ?_, e5, xk, ky, h⟩)
      · rcases (hc x x0 (by omega)).mp cx with b | e
        · exact b
        · exact absurd e5 (es_no hs x0 e xy (by omega))
      · rcases (hc y (by omega) (by omega)).mp cy with b | e
        · exact absurd e5 (bs_no hs x0 b xy (by omega))
        · exact e
