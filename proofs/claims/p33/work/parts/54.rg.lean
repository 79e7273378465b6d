/-! diaries that differ in what is kept alone -/
def Rg (A B : am_M) : Prop := A 1 7 = B 1 7 ∧ (∀ i, 0 ≤ i → i < B 1 7 → A 2 i = B 2 i ∧ A 3 i = B 3 i ∧ A 5 i = B 5 i) ∧ ∀ i, 0 ≤ i → i < 3 → A 6 i = B 6 i
theorem sn_rg {A B : am_M} (h2 : ∀ i, 0 ≤ i → i < B 1 7 → A 2 i = B 2 i) (h6 : A 6 1 = B 6 1) : ∀ i : Nat, (i : Int) < B 1 7 → sn A i = sn B i
  | 0, _ => rfl
  | i + 1, h => by
    unfold sn
    rw [sn_rg h2 h6 i (by omega), h6, h2 ((i : Int) + 1) (by omega) (by omega), h2 (i : Int) (by omega) (by omega)]
theorem Rg_of {A B D : am_M} (e : EQn A D) (hA : OKs A) (hB : OKs B) (e7 : D 1 7 = B 1 7) (e2 : ∀ i, 0 ≤ i → i < B 1 7 → D 2 i = B 2 i ∧ D 3 i = B 3 i) (e6 : ∀ i, 0 ≤ i → i < 3 → D 6 i = B 6 i) : Rg A B := by
  obtain ⟨a1, -, -, -, a5, a6, -⟩ := e
  have g2 : ∀ i, 0 ≤ i → i < B 1 7 → A 2 i = B 2 i := fun i i0 i1 => (a5 i i0 (by omega)).1.trans (e2 i i0 i1).1
  have g6 : ∀ i, 0 ≤ i → i < 3 → A 6 i = B 6 i := fun i i0 i1 => (a6 i i0 i1).trans (e6 i i0 i1)
  refine ⟨a1.trans e7, fun i i0 i1 => ⟨g2 i i0 i1, (a5 i i0 (by omega)).2.1.trans (e2 i i0 i1).2, ?_⟩, g6⟩
  have hi : i = ((i.toNat : Nat) : Int) := by omega
  rw [hi, hA i.toNat (by rw [a1, e7]; omega), hB i.toNat (by omega)]
  exact sn_rg g2 (g6 1 (by omega) (by omega)) i.toNat (by omega)
section RG
variable {A B : am_M}
theorem span_rg (h : Rg A B) {a b : Int} (a0 : 0 ≤ a) (a1 : a < B 1 7) (b0 : 0 ≤ b) (b1 : b < B 1 7) : sp_span A a b = sp_span B a b := by
  unfold sp_span
  rw [h.2.2 2 (by omega) (by omega), (h.2.1 a a0 a1).1, (h.2.1 b b0 b1).1]
theorem rise_rg (h : Rg A B) {a b : Int} (a0 : 0 ≤ a) (a1 : a < B 1 7) (b0 : 0 ≤ b) (b1 : b < B 1 7) : sp_rise A a b = sp_rise B a b := by
  unfold sp_rise
  rw [h.2.2 2 (by omega) (by omega), (h.2.1 a a0 a1).2.1, (h.2.1 b b0 b1).2.1]
theorem mi_rg (h : Rg A B) {a b k : Int} (a0 : 0 ≤ a) (a1 : a < B 1 7) (b0 : 0 ≤ b) (b1 : b < B 1 7) (k0 : 0 ≤ k) (k1 : k < B 1 7) : sp_mi A a b k = sp_mi B a b k := by
  have e : sp_ms A a b k = sp_ms B a b k := by
    unfold sp_ms
    rw [span_rg h a0 a1 b0 b1, rise_rg h a0 a1 b0 b1, (h.2.1 a a0 a1).1, (h.2.1 a a0 a1).2.1, (h.2.1 k k0 k1).1, (h.2.1 k k0 k1).2.1]
  unfold sp_mi
  rw [e]
theorem mx_rg (h : Rg A B) {a b : Int} (a0 : 0 ≤ a) (a1 : a < B 1 7) (b0 : 0 ≤ b) (b1 : b < B 1 7) : ∀ m : Nat, a + 1 + (m : Int) ≤ B 1 7 → sp_mx A a b m = sp_mx B a b m
  | 0, _ => rfl
  | m + 1, hm => by
    rw [mx_s, mx_s, mx_rg h a0 a1 b0 b1 m (by omega), mi_rg h a0 a1 b0 b1 (by omega) (by omega)]
theorem jn_rg (h : Rg A B) {a b o : Int} (a0 : 0 ≤ a) (ab : a < b) (b1 : b < B 1 7) : jn A a b o ↔ jn B a b o := by
  unfold jn
  rw [mx_rg h a0 (by omega) (by omega) b1 _ (by omega), span_rg h a0 (by omega) (by omega) b1]
theorem jo_rg (h : Rg A B) {i k o : Int} (i0 : 0 ≤ i) : jo A o i k ↔ jo B o i k := by
  unfold jo
  constructor
  · intro ⟨x1, x2, x3, x4⟩
    rw [h.1] at x2
    exact ⟨x1, x2, by rw [← (h.2.1 i i0 (by omega)).2.2, ← (h.2.1 k (by omega) x2).2.2]; exact x3, (jn_rg h i0 x1 x2).mp x4⟩
  · intro ⟨x1, x2, x3, x4⟩
    exact ⟨x1, by rw [h.1]; exact x2, by rw [(h.2.1 i i0 (by omega)).2.2, (h.2.1 k (by omega) x2).2.2]; exact x3, (jn_rg h i0 x1 x2).mpr x4⟩
theorem fw_rg (h : Rg A B) {o i : Int} (i0 : 0 ≤ i) (i1 : i < B 1 7) : fw A o i = fw B o i := by
  have g : FW B o 0 (B 1 7) (fw A o) := fun i i0 i1 => by
    rcases fw_s A o i i0 (by rw [h.1]; exact i1) with ⟨x, y⟩ | ⟨k, x, y, z⟩
    · exact Or.inl ⟨fun k hk => x k ((jo_rg h i0).mpr hk), y⟩
    · exact Or.inr ⟨k, (jo_rg h i0).mp x, y, fun k' hk => z k' ((jo_rg h i0).mpr hk)⟩
  exact FW_u fw_c (fw_s B o) g (B 1 7 - i).toNat i (by omega) i0 i1 |>.symm
theorem fwS_rg (h : Rg A B) (o : Int) : fwS A o = fwS B o := by
  unfold fwS
  rw [h.1]
  refine sm_cg _ (fun i i0 i1 => ?_)
  show (if i = 0 ∨ A 5 (i - 1) ≠ A 5 i then fw A o i else 0) = (if i = 0 ∨ B 5 (i - 1) ≠ B 5 i then fw B o i else 0)
  rw [fw_rg h i0 (by omega)]
  by_cases z : i = 0
  · rw [if_pos (Or.inl z), if_pos (Or.inl z)]
  · rw [(h.2.1 i i0 (by omega)).2.2, (h.2.1 (i - 1) (by omega) (by omega)).2.2]
end RG
/-! between two that can be joined, each is within the oath -/
theorem jn_mi {c : Int} {D : am_M} (hd : OKd c D) {a b p o : Int} (ho : 0 ≤ o) (a0 : 0 ≤ a) (ap : a < p) (pb : p < b) (b1 : b < D 1 7) (h : jn D a b o) : sp_mi D a b p ≤ o * sp_span D a b := by
  have hs := span_b hd a0 (by omega : a < b) b1
  have h0 : 0 ≤ o * sp_span D a b := Int.mul_nonneg ho (by omega)
  exact (mx_le (by omega) (b - a - 1).toNat).mp h p ap (by omega)
theorem ek_ex {D : am_M} (hs : OKs D) {p x : Int} (x0 : 0 ≤ x) (xp : x < p) (p1 : p < D 1 7) (hx : D 4 x = 1) (h5 : D 5 x = D 5 p) : ek D p ≠ -1 := by
  have hk : x ≤ kb D p.toNat ∧ kb D p.toNat < p := by
    rcases kb_s D p.toNat with ⟨g1, g2⟩ | ⟨g1, g2, g3, g4⟩
    · exact absurd hx (g2 x x0 (by omega))
    · by_cases z : kb D p.toNat < x
      · exact absurd hx (g4 x z (by omega))
      · omega
  have e := st_eq hs (i := x) (k := kb D p.toNat) (j := p) x0 hk.1 (by omega) p1 h5
  unfold ek
  rw [if_pos ⟨by omega, by rw [e, h5]⟩]
  omega
theorem lk_ex {D : am_M} (hs : OKs D) {p x : Int} (p0 : 0 ≤ p) (px : p < x) (x1 : x < D 1 7) (hx : D 4 x = 1) (h5 : D 5 p = D 5 x) : lk D p ≠ -1 := by
  have hk : kf D (D 1 7) (D 1 7 - (p + 1)).toNat ≤ x ∧ p < kf D (D 1 7) (D 1 7 - (p + 1)).toNat := by
    rcases kf_s D (D 1 7) (D 1 7 - (p + 1)).toNat with ⟨g1, g2⟩ | ⟨g1, g2, g3, g4⟩
    · exact absurd hx (g2 x (by omega) x1)
    · by_cases z : x < kf D (D 1 7) (D 1 7 - (p + 1)).toNat
      · exact absurd hx (g4 x (by omega) z)
      · omega
  have e := st_eq hs (i := p) (k := kf D (D 1 7) (D 1 7 - (p + 1)).toNat) (j := x) p0 (by omega) hk.1 x1 h5
  unfold lk
  rw [if_pos ⟨by omega, e.symm⟩]
  omega
theorem es_ex {D : am_M} : ∀ (r : Nat) (j : Int), D 1 7 - j ≤ r → 0 ≤ j → j < D 1 7 → ∃ y, j ≤ y ∧ y < D 1 7 ∧ es D y ∧ D 5 y = D 5 j
  | 0, j, h, h0, h1 => by omega
  | r + 1, j, h, h0, h1 => by
    by_cases z : es D j
    · exact ⟨j, Int.le_refl _, h1, z, rfl⟩
    · have z1 : j + 1 ≠ D 1 7 := fun y => z (Or.inl y)
      have z2 : D 5 j = D 5 (j + 1) := Classical.byContradiction (fun y => z (Or.inr y))
      obtain ⟨y, y1, y2, y3, y4⟩ := es_ex (D := D) r (j + 1) (by omega) (by omega) (by omega)
      exact ⟨y, by omega, y2, y3, y4.trans z2.symm⟩
/-! a chain from the first to the last of each stretch: no shorter than the fewest -/
def CN (D : am_M) (c : Int → Int) : Prop := (∀ i, 0 ≤ i → i < D 1 7 → c i = 0 ∨ c i = 1) ∧ (∀ i, 0 ≤ i → i < D 1 7 → bs D i → c i = 1) ∧ ∀ i, 0 ≤ i → i < D 1 7 → es D i → c i = 1
def nxt (D : am_M) (c : Int → Int) (i j : Int) : Prop := 0 ≤ i ∧ i < j ∧ j < D 1 7 ∧ c i = 1 ∧ c j = 1 ∧ D 5 i = D 5 j ∧ ∀ k, i < k → k < j → c k ≠ 1
theorem sm_zero {t : Int → Int} {a : Nat} : ∀ d : Nat, (∀ k, (a : Int) ≤ k → k < (a : Int) + (d : Int) → t k = 0) → sm t (a + d) = sm t a
  | 0, _ => rfl
  | d + 1, h => by
    show sm t (a + d) + t ((a + d : Nat) : Int) = sm t a
    rw [sm_zero d (fun k k0 k1 => h k k0 (by omega)), h _ (by omega) (by omega)]; omega
theorem nx_ex {c : Int → Int} {n i : Int} : ∀ (r : Nat) (g : Int), g + r = n → i < g → (∀ k, i < k → k < g → c k ≠ 1) → (∃ j, g ≤ j ∧ j < n ∧ c j = 1 ∧ ∀ k, i < k → k < j → c k ≠ 1) ∨ ∀ k, i < k → k < n → c k ≠ 1
  | 0, g, h, hg, hn => Or.inr (fun k k0 k1 => hn k k0 (by omega))
  | r + 1, g, h, hg, hn => by
    by_cases z : c g = 1
    · exact Or.inl ⟨g, Int.le_refl _, by omega, z, hn⟩
    · rcases nx_ex (c := c) (n := n) (i := i) r (g + 1) (by omega) (by omega) (fun k k0 k1 => by
        by_cases y : k = g
        · rw [y]; exact z
        · exact hn k k0 (by omega)) with ⟨j, j1, j2⟩ | h2
      · exact Or.inl ⟨j, by omega, j2⟩
      · exact Or.inr h2
theorem fw_es {D : am_M} (hs : OKs D) {o i : Int} (i0 : 0 ≤ i) (i1 : i < D 1 7) (he : es D i) : fw D o i = 1 := by
  rcases fw_s D o i i0 i1 with ⟨-, h⟩ | ⟨k, ⟨h1, h2, h3, -⟩, -⟩
  · exact h
  · exact absurd h3 (es_no hs i0 he h1 h2)
theorem cn_suf {D : am_M} (hs : OKs D) {o σ : Int} {c : Int → Int} (hσ : σ = 1 ∨ σ = -1) (hc : CN D c) (hj : ∀ i j, nxt D c i j → 0 ≤ σ * (1 + fw D o j - fw D o i)) : ∀ (r i : Nat), D 1 7 - (i : Int) ≤ r → (i : Int) < D 1 7 → c (i : Int) = 1 →
    0 ≤ σ * (sm c (D 1 7).toNat - sm c i - fw D o (i : Int) - (fwS D o - sm (fun i => if i = 0 ∨ D 5 (i - 1) ≠ D 5 i then fw D o i else 0) (i + 1))) := by
  obtain ⟨c1, c2, c3⟩ := hc
  intro r
  induction r with
  | zero => intro i h1 h2; omega
  | succ r ih =>
    intro i h1 h2 hi
    obtain ⟨t, ht⟩ : ∃ t : Int → Int, t = (fun i => if i = 0 ∨ D 5 (i - 1) ≠ D 5 i then fw D o i else 0) := ⟨_, rfl⟩
    have eS : fwS D o = sm t (D 1 7).toNat := by rw [ht]; rfl
    rw [← ht] at ih ⊢
    rw [eS] at ih ⊢
    obtain ⟨y, y1, y2, y3, y4⟩ := es_ex (D := D) (D 1 7 - (i : Int)).toNat (i : Int) (by omega) (by omega) h2
    have cy := c3 y (by omega) y2 y3
    have lastcase : es D (i : Int) → (∀ k, (i : Int) < k → k < D 1 7 → c k ≠ 1) → 0 ≤ σ * (sm c (D 1 7).toNat - sm c i - fw D o (i : Int) - (sm t (D 1 7).toNat - sm t (i + 1))) := by
      intro he hno
      have hn : (i : Int) + 1 = D 1 7 := by
        rcases he with e | e
        · exact e
        · by_cases z : (i : Int) + 1 < D 1 7
          · exact absurd (c2 ((i : Int) + 1) (by omega) z (Or.inr (by rw [show (i : Int) + 1 - 1 = (i : Int) by omega]; exact e))) (hno _ (by omega) z)
          · omega
      rw [show (D 1 7).toNat = i + 1 by omega, fw_es hs (by omega) h2 he]
      have : sm c (i + 1) = sm c i + c (i : Int) := rfl
      rw [this, hi]
      rcases hσ with rfl | rfl <;> omega
    rcases nx_ex (c := c) (n := D 1 7) (i := (i : Int)) (D 1 7 - ((i : Int) + 1)).toNat ((i : Int) + 1) (by omega) (by omega) (fun k k0 k1 => by omega) with ⟨j, j1, j2, j3, j4⟩ | hno
    · obtain ⟨jn', hjn⟩ : ∃ jn' : Nat, j = (jn' : Int) := ⟨j.toNat, by omega⟩
      subst hjn
      have hcz : ∀ k, ((i + 1 : Nat) : Int) ≤ k → k < ((i + 1 : Nat) : Int) + ((jn' - (i + 1) : Nat) : Int) → c k = 0 := fun k k0 k1 => (c1 k (by omega) (by omega)).resolve_right (j4 k (by omega) (by omega))
      have e1 : sm c jn' = sm c i + 1 := by
        have := sm_zero (t := c) (a := i + 1) (jn' - (i + 1)) hcz
        rw [show i + 1 + (jn' - (i + 1)) = jn' by omega] at this
        rw [this]
        show sm c i + c (i : Int) = sm c i + 1
        rw [hi]
      have ihj := ih jn' (by omega) j2 j3
      by_cases h5 : D 5 (i : Int) = D 5 (jn' : Int)
      · have hst := hj (i : Int) (jn' : Int) ⟨by omega, by omega, j2, hi, j3, h5, j4⟩
        have e2 : sm t (jn' + 1) = sm t (i + 1) := by
          have := sm_zero (t := t) (a := i + 1) (jn' - i) (fun k k0 k1 => by
            have q1 := st_eq hs (i := (i : Int)) (k := k) (j := (jn' : Int)) (by omega) (by omega) (by omega) j2 h5
            have q2 := st_eq hs (i := (i : Int)) (k := k - 1) (j := (jn' : Int)) (by omega) (by omega) (by omega) j2 h5
            rw [ht]
            exact if_neg (fun z => by
              rcases z with z | z
              · omega
              · exact z (q2.trans q1.symm)))
          rw [show i + 1 + (jn' - i) = jn' + 1 by omega] at this
          exact this
        rw [e1, e2] at ihj
        rcases hσ with rfl | rfl <;> omega
      · have yj : y < (jn' : Int) := by
          refine Classical.byContradiction (fun z => h5 ?_)
          have := st_eq hs (i := (i : Int)) (k := (jn' : Int)) (j := y) (by omega) (by omega) (by omega) y2 y4.symm
          exact this.symm
        have yi : y = (i : Int) := by
          by_cases z : (i : Int) < y
          · exact absurd cy (j4 y z yj)
          · omega
        rw [yi] at y3
        have e3 : D 5 (i : Int) ≠ D 5 ((i : Int) + 1) := by
          rcases y3 with e | e
          · omega
          · exact e
        have hb : bs D ((i : Int) + 1) := Or.inr (by rw [show (i : Int) + 1 - 1 = (i : Int) by omega]; exact e3)
        have hji : jn' = i + 1 := by
          by_cases z : (i : Int) + 1 < (jn' : Int)
          · exact absurd (c2 _ (by omega) (by omega) hb) (j4 _ (by omega) z)
          · omega
        subst hji
        have e4 : sm t (i + 1 + 1) = sm t (i + 1) + fw D o ((i + 1 : Nat) : Int) := by
          show sm t (i + 1) + t ((i + 1 : Nat) : Int) = _
          rw [ht]
          have hb' : ((i + 1 : Nat) : Int) = 0 ∨ D 5 (((i + 1 : Nat) : Int) - 1) ≠ D 5 ((i + 1 : Nat) : Int) := hb
          show _ + (if ((i + 1 : Nat) : Int) = 0 ∨ D 5 (((i + 1 : Nat) : Int) - 1) ≠ D 5 ((i + 1 : Nat) : Int) then fw D o ((i + 1 : Nat) : Int) else 0) = _
          rw [if_pos hb']
        have e5 := fw_es hs (o := o) (by omega) h2 y3
        rw [e1, e4] at ihj
        rw [e5]
        rcases hσ with rfl | rfl <;> omega
    · have yi : y = (i : Int) := by
        by_cases z : (i : Int) < y
        · exact absurd cy (hno y z y2)
        · omega
      rw [yi] at y3
      exact lastcase y3 hno
theorem cn_all {D : am_M} (n0 : 0 ≤ D 1 7) (hs : OKs D) {o σ : Int} {c : Int → Int} (hσ : σ = 1 ∨ σ = -1) (hc : CN D c) (hj : ∀ i j, nxt D c i j → 0 ≤ σ * (1 + fw D o j - fw D o i)) : 0 ≤ σ * (sm c (D 1 7).toNat - fwS D o) := by
  by_cases z : 0 < D 1 7
  · have h := cn_suf hs hσ hc hj (D 1 7).toNat 0 (by omega) (by omega) (hc.2.1 0 (by omega) z (Or.inl rfl))
    have e : sm (fun i => if i = 0 ∨ D 5 (i - 1) ≠ D 5 i then fw D o i else 0) (0 + 1) = fw D o ((0 : Nat) : Int) := by
      show (0 : Int) + (if ((0 : Nat) : Int) = 0 ∨ D 5 (((0 : Nat) : Int) - 1) ≠ D 5 ((0 : Nat) : Int) then fw D o ((0 : Nat) : Int) else 0) = _
      rw [if_pos (Or.inl (by omega)), Int.zero_add]
    rw [e] at h
    have e0 : sm c 0 = 0 := rfl
    rw [e0] at h
    rcases hσ with rfl | rfl <;> omega
  · have e : D 1 7 = 0 := by omega
    unfold fwS
    rw [e]
    show 0 ≤ σ * ((0 : Int) - 0)
    rcases hσ with rfl | rfl <;> omega
