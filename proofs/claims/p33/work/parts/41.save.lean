/-! the reference's saves -/
/-! the points' rows -/
/-- a row with one put in -/
def insR (f : Int → Int) (p x : Int) : Int → Int := fun i => if i < p then f i else if i = p then x else f (i - 1)
/-- a row with n taken out -/
def cutR (f : Int → Int) (p n : Int) : Int → Int := fun i => if i < p then f i else f (i + n)
theorem dp_copyPoint {a b : Int} {M : am_M} {Q : am_M → Prop} (ha : 0 ≤ a ∧ a < 60) (hb : 0 ≤ b ∧ b < 60) (hq : Q (am_up (am_up (am_up M 2 b (M 2 a)) 3 b (M 3 a)) 4 b (M 4 a))) : wp_X2_copyPoint a b M Q := by
  unfold wp_X2_copyPoint
  refine ⟨by unfold am_rg; omega, fun e => absurd e (by omega), fun _ => ⟨by unfold am_rg; omega, fun e => absurd e (by omega), fun _ => ⟨by unfold am_rg; omega, fun e => absurd e (by omega), fun _ => ⟨by unfold am_rg; omega, fun e => absurd e (by omega), fun _ => ⟨ha, hb, ha, hb, ha, hb, ?_⟩⟩⟩⟩⟩
  rw [am_up_r (k := 2) (k' := 3) (by omega), am_up_r (k := 3) (k' := 4) (by omega), am_up_r (k := 2) (k' := 4) (by omega)]
  exact hq
def F4 (M M' : am_M) : Prop := (∀ k, (k = 0 ∨ 4 < k) → M' k = M k) ∧ (∀ j, j ≠ 7 → M' 1 j = M 1 j)
theorem dp_insert {t v : Int} {M : am_M} {Q : Int → am_M → Prop} {c : Int} (hd : OKd c M) (ht : am_rg t) (hn : M 1 7 < 60)
    (hq : ∀ p M', 0 ≤ p → p ≤ M 1 7 → (∀ i, 0 ≤ i → i < p → M 2 i < t) → (p < M 1 7 → t ≤ M 2 p) → F4 M M' → M' 1 7 = M 1 7 + 1 → (∀ i, 0 ≤ i → i ≤ M 1 7 → M' 2 i = insR (M 2) p t i ∧ M' 3 i = insR (M 3) p v i ∧ M' 4 i = insR (M 4) p 1 i) → Q p M') : wp_X2_insert t v M Q := by
  have hd' := hd
  obtain ⟨⟨n0, n1⟩, -⟩ := hd'
  refine ⟨by unfold am_rg; omega, fun _ => ?_, fun e => absurd hn e⟩
  refine sp_placeOf hd ht (fun p p0 p1 p2 p3 => ?_)
  have loop : ∀ (r : Nat) (i : Int) (M1 : am_M), p + r = i → i ≤ M 1 7 → (∀ k, k ≠ 2 → k ≠ 3 → k ≠ 4 → M1 k = M k) → (∀ k, 0 ≤ k → k ≤ i → k < M 1 7 → M1 2 k = M 2 k ∧ M1 3 k = M 3 k ∧ M1 4 k = M 4 k) → (∀ k, i < k → k ≤ M 1 7 → M1 2 k = M 2 (k - 1) ∧ M1 3 k = M 3 (k - 1) ∧ M1 4 k = M 4 (k - 1)) → wl_X2_insert_24 Q (r + 1) t v p i M1 := by
    intro r
    induction r with
    | zero =>
      intro i M1 hr hi f g h
      have ei : i = p := by omega
      have e1 : M1 1 = M 1 := f 1 (by omega) (by omega) (by omega)
      refine ⟨by unfold am_rg; omega, by unfold am_rg; omega, fun _ => ⟨by omega, by omega, by omega, ?_⟩, fun e => absurd e (by omega)⟩
      rw [am_up_r (k := 4) (k' := 1) (by omega), am_up_r (k := 3) (k' := 1) (by omega), am_up_r (k := 2) (k' := 1) (by omega), e1]
      refine hq p _ p0 p1 p2 p3 ⟨fun k hk => by rw [am_up_r (by omega), am_up_r (by omega), am_up_r (by omega), am_up_r (by omega), f k (by omega) (by omega) (by omega)], fun j hj => by rw [am_up_n hj, am_up_r (by omega), am_up_r (by omega), am_up_r (by omega), e1]⟩ (by rw [am_up_s]) (fun k k0 k1 => ?_)
      rw [am_up_r (k := 1) (k' := 2) (by omega), am_up_r (k := 4) (k' := 2) (by omega), am_up_r (k := 3) (k' := 2) (by omega), am_up_r (k := 1) (k' := 3) (by omega), am_up_r (k := 4) (k' := 3) (by omega), am_up_r (k := 1) (k' := 4) (by omega)]
      unfold insR
      by_cases z : k = p
      · rw [z, am_up_s, am_up_s, am_up_s]
        simp
      · rw [am_up_n z, am_up_n z, am_up_n z, am_up_r (k := 2) (k' := 3) (by omega), am_up_r (k := 3) (k' := 4) (by omega), am_up_r (k := 2) (k' := 4) (by omega)]
        by_cases y : k < p
        · simp only [if_pos y]
          exact g k k0 (by omega) (by omega)
        · simp only [if_neg y, if_neg z]
          exact h k (by omega) k1
    | succ r ih =>
      intro i M1 hr hi f g h
      refine ⟨by unfold am_rg; omega, by unfold am_rg; omega, fun e => absurd e (by omega), fun _ => dp_copyPoint (by omega) (by omega) ?_⟩
      have gi := g (i - 1) (by omega) (by omega) (by omega)
      refine ih (i + (-1)) _ (by omega) (by omega) (fun k k2 k3 k4 => by rw [am_up_r k4, am_up_r k3, am_up_r k2]; exact f k k2 k3 k4) (fun k k0 k1 k5 => ?_) (fun k k0 k1 => ?_)
      · rw [am_up_r (k := 4) (k' := 2) (by omega), am_up_r (k := 3) (k' := 2) (by omega), am_up_r (k := 4) (k' := 3) (by omega), am_up_n (by omega), am_up_n (by omega), am_up_n (by omega), am_up_r (k := 2) (k' := 3) (by omega), am_up_r (k := 3) (k' := 4) (by omega), am_up_r (k := 2) (k' := 4) (by omega)]
        exact g k k0 (by omega) k5
      · rw [am_up_r (k := 4) (k' := 2) (by omega), am_up_r (k := 3) (k' := 2) (by omega), am_up_r (k := 4) (k' := 3) (by omega)]
        by_cases z : k = i
        · rw [z, am_up_s, am_up_s, am_up_s]
          exact gi
        · rw [am_up_n z, am_up_n z, am_up_n z, am_up_r (k := 2) (k' := 3) (by omega), am_up_r (k := 3) (k' := 4) (by omega), am_up_r (k := 2) (k' := 4) (by omega)]
          exact h k (by omega) k1
  exact ⟨_, loop (M 1 7 - p).toNat (M 1 7) M (by omega) (by omega) (fun _ _ _ _ => rfl) (fun _ _ _ _ => ⟨rfl, rfl, rfl⟩) (fun k k0 k1 => by omega)⟩
theorem dp_removeRun {a n : Int} {M : am_M} {Q : am_M → Prop} {c : Int} (hd : OKd c M) (ha : 0 ≤ a) (hn : 0 ≤ n) (hs : a + n ≤ M 1 7)
    (hq : ∀ M', F4 M M' → M' 1 7 = M 1 7 - n → (∀ i, 0 ≤ i → i < M 1 7 - n → M' 2 i = cutR (M 2) a n i ∧ M' 3 i = cutR (M 3) a n i ∧ M' 4 i = cutR (M 4) a n i) → Q M') : wp_X2_removeRun a n M Q := by
  have hd' := hd
  obtain ⟨⟨n0, n1⟩, -⟩ := hd'
  have loop : ∀ (r : Nat) (i : Int) (M1 : am_M), a + n ≤ i → i + r = M 1 7 → (∀ k, k ≠ 2 → k ≠ 3 → k ≠ 4 → M1 k = M k) → (∀ k, (k < a ∨ i ≤ k) → M1 2 k = M 2 k ∧ M1 3 k = M 3 k ∧ M1 4 k = M 4 k) → (∀ k, a ≤ k → k < i - n → M1 2 k = M 2 (k + n) ∧ M1 3 k = M 3 (k + n) ∧ M1 4 k = M 4 (k + n)) → wl_X2_removeRun_23 Q (r + 1) n i M1 := by
    intro r
    induction r with
    | zero =>
      intro i M1 hi hr f g h
      have e1 : M1 1 = M 1 := f 1 (by omega) (by omega) (by omega)
      rw [wl_X2_removeRun_23, e1]
      refine ⟨by unfold am_rg; omega, by unfold am_rg; omega, fun _ => ?_, fun e => absurd e (by omega)⟩
      refine hq _ ⟨fun k hk => by rw [am_up_r (by omega), f k (by omega) (by omega) (by omega)], fun j hj => by rw [am_up_n hj, e1]⟩ (by rw [am_up_s]) (fun k k0 k1 => ?_)
      rw [am_up_r (k := 1) (k' := 2) (by omega), am_up_r (k := 1) (k' := 3) (by omega), am_up_r (k := 1) (k' := 4) (by omega)]
      unfold cutR
      by_cases y : k < a
      · simp only [if_pos y]; exact g k (Or.inl y)
      · simp only [if_neg y]; exact h k (by omega) (by omega)
    | succ r ih =>
      intro i M1 hi hr f g h
      have e1 : M1 1 = M 1 := f 1 (by omega) (by omega) (by omega)
      have gi := g i (Or.inr (Int.le_refl _))
      rw [wl_X2_removeRun_23, e1]
      refine ⟨by unfold am_rg; omega, by unfold am_rg; omega, fun e => absurd e (by omega), fun _ => dp_copyPoint (by omega) (by omega) ?_⟩
      refine ih (i + 1) _ (by omega) (by omega) (fun k k2 k3 k4 => by rw [am_up_r k4, am_up_r k3, am_up_r k2]; exact f k k2 k3 k4) (fun k k0 => ?_) (fun k k0 k1 => ?_)
      · by_cases z : k = i - n
        · have : n = 0 := by omega
          rw [am_up_r (k := 4) (k' := 2) (by omega), am_up_r (k := 3) (k' := 2) (by omega), am_up_r (k := 4) (k' := 3) (by omega), z, am_up_s, am_up_s, am_up_s, show i - n = i by omega]
          exact gi
        · rw [am_up_r (k := 4) (k' := 2) (by omega), am_up_r (k := 3) (k' := 2) (by omega), am_up_r (k := 4) (k' := 3) (by omega), am_up_n z, am_up_n z, am_up_n z, am_up_r (k := 2) (k' := 3) (by omega), am_up_r (k := 3) (k' := 4) (by omega), am_up_r (k := 2) (k' := 4) (by omega)]
          exact g k (by omega)
      · rw [am_up_r (k := 4) (k' := 2) (by omega), am_up_r (k := 3) (k' := 2) (by omega), am_up_r (k := 4) (k' := 3) (by omega)]
        by_cases z : k = i - n
        · rw [z, am_up_s, am_up_s, am_up_s, show i - n + n = i by omega]
          exact gi
        · rw [am_up_n z, am_up_n z, am_up_n z, am_up_r (k := 2) (k' := 3) (by omega), am_up_r (k := 3) (k' := 4) (by omega), am_up_r (k := 2) (k' := 4) (by omega)]
          exact h k k0 (by omega)
  unfold wp_X2_removeRun
  refine ⟨by unfold am_rg; omega, fun e => absurd e (by omega), fun _ => ⟨by unfold am_rg; omega, fun e => absurd e (by omega), fun _ => ⟨by unfold am_rg; omega, by unfold am_rg; omega, fun _ => ⟨_, loop (M 1 7 - (a + n)).toNat (a + n) M (by omega) (by omega) (fun _ _ _ _ => rfl) (fun _ _ => ⟨rfl, rfl, rfl⟩) (fun k k0 k1 => by omega)⟩, fun e => absurd hs e⟩⟩⟩
theorem sn_5 {M M' : am_M} (f : ∀ k, k ≠ 5 → M' k = M k) : ∀ i, sn M' i = sn M i
  | 0 => rfl
  | i + 1 => by
    unfold sn
    rw [sn_5 f i, f 2 (by omega), f 6 (by omega)]
theorem OKd_5 {c : Int} {M M' : am_M} (h : OKd c M) (f : ∀ k, k ≠ 5 → M' k = M k) : OKd c M' := by
  unfold OKd at h ⊢
  rw [f 1 (by omega), f 2 (by omega), f 3 (by omega), f 4 (by omega), f 6 (by omega), f 7 (by omega), f 8 (by omega)]
  exact h
theorem dp_pointsChanged {M : am_M} {Q : am_M → Prop} {c : Int} (hd : OKd c M) (hq : ∀ M', (∀ k, k ≠ 5 → k ≠ 10 → M' k = M k) → OKs M' → OKd c M' → M' 10 5 = 0 → Q M') : wp_X5_pointsChanged M Q := by
  have hd' := hd
  obtain ⟨⟨n0, n1⟩, -, -, -, l1, -⟩ := hd'
  have loop : ∀ (r : Nat) (k : Nat) (M1 : am_M) (v : Int), (k : Int) + r = M 1 7 → (∀ j, j ≠ 5 → M1 j = M j) → (∀ i : Nat, i < k → M1 5 (i : Int) = sn M i) → v = (if k = 0 then 0 else sn M (k - 1)) → wl_X2_numberStretches_4 (fun M1 => wp_X4_forget M1 (fun M2 => Q M2)) (r + 1) v (k : Int) M1 := by
    intro r
    induction r with
    | zero =>
      intro k M1 v hk f g hv
      have e1 : M1 1 = M 1 := f 1 (by omega)
      rw [wl_X2_numberStretches_4, e1]
      refine ⟨by unfold am_rg; omega, by unfold am_rg; omega, fun _ => ?_, fun e => absurd e (by omega)⟩
      refine hq _ (fun j j5 j10 => by rw [am_up_r j10]; exact f j j5) ?_ ?_ (by rw [am_up_s])
      · intro i hi
        rw [am_up_r (by omega), e1] at hi
        rw [am_up_r (by omega), g i (by omega)]
        rw [show sn (am_up M1 10 5 0) i = sn M1 i from sn_fr (M := M1) (M' := am_up M1 10 5 0) (fun k h1 h2 => am_up_r (by omega)) i]
        exact (sn_5 f i).symm
      · exact OKd_fr (OKd_5 hd f) (fun k h1 h2 => am_up_r (by omega))
    | succ r ih =>
      intro k M1 v hk f g hv
      have e1 : M1 1 = M 1 := f 1 (by omega)
      have put : ∀ w, w = sn M k → wj_X2_numberStretches_43 (fun M1 => wp_X4_forget M1 (fun M2 => Q M2)) (wl_X2_numberStretches_4 (fun M1 => wp_X4_forget M1 (fun M2 => Q M2)) (r + 1)) w (k : Int) M1 := by
        intro w hw
        refine ⟨by omega, ?_⟩
        refine ih (k + 1) _ w (by omega) (fun j hj => by rw [am_up_r hj]; exact f j hj) (fun i hi => ?_) (by rw [if_neg (by omega)]; exact hw)
        by_cases z : i = k
        · rw [z, am_up_s]; exact hw
        · rw [am_up_n (by omega)]; exact g i (by omega)
      rw [wl_X2_numberStretches_4, e1, f 2 (by omega), f 6 (by omega)]
      refine ⟨by unfold am_rg; omega, by unfold am_rg; omega, fun e => absurd e (by omega), fun _ => ⟨by unfold am_rg; omega, fun e => put v ?_, fun e => ⟨by omega, by omega, ?_⟩⟩⟩
      · have : k = 0 := by omega
        subst this
        rw [hv]; rfl
      · obtain ⟨m, rfl⟩ : ∃ m, k = m + 1 := ⟨k - 1, by omega⟩
        have t1 := OKd_t hd (i := ((m + 1 : Nat) : Int)) (by omega) (by omega)
        have t2 := OKd_t hd (i := ((m + 1 : Nat) : Int) - 1) (by omega) (by omega)
        have es : sn M (m + 1) = sn M m + (if M 6 1 < M 2 ((m : Int) + 1) - M 2 (m : Int) then 1 else 0) := rfl
        rw [if_neg (by omega), show m + 1 - 1 = m by omega] at hv
        rw [show ((m + 1 : Nat) : Int) - 1 = (m : Int) by omega] at t2 ⊢
        rw [show ((m : Int) + 1) = ((m + 1 : Nat) : Int) by omega] at es
        refine ⟨by unfold am_rg; omega, by unfold am_rg; omega, fun e2 => put v ?_, fun e2 => put (v + 1) ?_⟩
        · rw [es, if_neg (by omega)]; omega
        · rw [es, if_pos (by omega)]; omega
  exact ⟨_, loop (M 1 7).toNat 0 M 0 (by omega) (fun _ _ => rfl) (fun i hi => by omega) rfl⟩
