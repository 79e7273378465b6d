theorem cn_b {t : Int → Int} {i : Nat} (h : st t i ≠ -1) : 0 ≤ cn t i ∧ 4 * cn t i ≤ (i : Int) := by
  have hb := st_b t i
  have ht := (tx_b t i h).1
  unfold TXN at ht
  obtain ⟨-, a2, -, -, a5, -, -, -, -, a10, -⟩ := ht
  refine ⟨a2, ?_⟩
  by_cases z : st t i = 0
  · exact (a5 z).2
  · have := a10 (by omega)
    omega
def TP (t : Int → Int) (i : Nat) (k : Int) : Int := if k = cn t i then tm t i else TA t i k
def VP (t : Int → Int) (i : Nat) (k : Int) : Int := if k = cn t i then sg t i * nu t i else VA t i k
theorem dp_takePoint {a b : Int} {M : am_M} {Q : am_M → Prop} {n : Int} (e : M 64 4 = n) (hn : 0 ≤ n ∧ n < 60) (hq : ∀ M', (∀ k, k ≠ 64 → k ≠ 66 → k ≠ 67 → M' k = M k) → (∀ j, j ≠ 4 → M' 64 j = M 64 j) → M' 64 4 = n + 1 → M' 66 n = a → M' 67 n = b → (∀ k, k ≠ n → M' 66 k = M 66 k ∧ M' 67 k = M 67 k) → Q M') : wp_X3_takePoint a b M Q := by
  unfold wp_X3_takePoint
  rw [am_up_r (k := 67) (k' := 64) (by omega), am_up_r (k := 66) (k' := 64) (by omega), e]
  refine ⟨by unfold am_rg; omega, fun z => absurd z (by omega), fun _ => ⟨by unfold am_rg; omega, fun z => absurd z (by omega), fun _ => ⟨hn, hn, hq _ (fun k k1 k2 k3 => by rw [am_up_r k1, am_up_r k3, am_up_r k2]) (fun j hj => by rw [am_up_n hj, am_up_r (by omega), am_up_r (by omega)]) (by rw [am_up_s]) ?_ ?_ (fun k hk => ⟨?_, ?_⟩)⟩⟩⟩
  · rw [am_up_r (by omega), am_up_r (by omega), am_up_s]
  · rw [am_up_r (by omega), am_up_s]
  · rw [am_up_r (by omega), am_up_r (by omega), am_up_n hk]
  · rw [am_up_r (by omega), am_up_n hk, am_up_r (by omega)]
theorem dp_readRow {M : am_M} {Q : am_M → Prop} (h : OKt M) (h8 : 8 ≤ st (M 65) (M 64 1).toNat)
    (hq : ∀ M', (∀ k, k ≠ 64 → k ≠ 66 → k ≠ 67 → M' k = M k) → (∀ j, j ≠ 4 → M' 64 j = M 64 j) → M' 64 4 = cn (M 65) (M 64 1).toNat + 1 → (∀ k, 0 ≤ k → k ≤ cn (M 65) (M 64 1).toNat → M' 66 k = TP (M 65) (M 64 1).toNat k ∧ M' 67 k = VP (M 65) (M 64 1).toNat k) → Q M') : wp_X3_readRow M Q := by
  obtain ⟨⟨l0, l1⟩, hc⟩ := h
  have good : ∀ k : Nat, (k : Int) ≤ M 64 1 → st (M 65) k ≠ -1 := by
    intro k hk e
    have := st_w e ((M 64 1).toNat - k)
    rw [show k + ((M 64 1).toNat - k) = (M 64 1).toNat by omega] at this
    omega
  have loop : ∀ (r k : Nat) (M1 : am_M), (k : Int) + r = M 64 1 → (∀ k, k ≠ 64 → k ≠ 66 → k ≠ 67 → M1 k = M k) → (∀ j, j ≠ 4 → M1 64 j = M 64 j) → M1 64 4 = cn (M 65) k → (∀ j, 0 ≤ j → j < cn (M 65) k → M1 66 j = TA (M 65) k j ∧ M1 67 j = VA (M 65) k j) → wl_X3_readRow_14 Q (r + 1) (tm (M 65) k) (nu (M 65) k) (sg (M 65) k) (k : Int) M1 := by
    intro r
    induction r with
    | zero =>
      intro k M1 hk f g e4 ha
      have e1 : M1 64 1 = M 64 1 := g 1 (by omega)
      have hcn := cn_b (good k (by omega))
      refine ⟨by unfold am_rg; omega, by unfold am_rg; omega, fun _ => ?_, fun z => absurd z (by omega)⟩
      rw [show (M 64 1).toNat = k by omega] at hq
      refine dp_takePoint e4 (by omega) (fun M' f' g' b1 b2 b3 b4 => hq M' (fun j h1 h2 h3 => (f' j h1 h2 h3).trans (f j h1 h2 h3)) (fun j hj => (g' j hj).trans (g j hj)) b1 (fun j j0 j1 => ?_))
      unfold TP VP
      by_cases z : j = cn (M 65) k
      · rw [if_pos z, if_pos z, z]; exact ⟨b2, b3⟩
      · rw [if_neg z, if_neg z, (b4 j z).1, (b4 j z).2]; exact ha j j0 (by omega)
    | succ r ih =>
      intro k M1 hk f g e4 ha
      have e1 : M1 64 1 = M 64 1 := g 1 (by omega)
      have hcn := cn_b (good k (by omega))
      have hck := hc (k : Int) (by omega) (by omega)
      have e65 : M1 65 (k : Int) = M 65 (k : Int) := by rw [f 65 (by omega) (by omega) (by omega)]
      have en : nu (M 65) (k + 1) = if M 65 (k : Int) = 58 then 0 else if M 65 (k : Int) = 45 then nu (M 65) k else if M 65 (k : Int) = 44 then 0 else 10 * nu (M 65) k + M 65 (k : Int) - 48 := rfl
      have et : tm (M 65) (k + 1) = if M 65 (k : Int) = 58 then nu (M 65) k else tm (M 65) k := rfl
      have eg : sg (M 65) (k + 1) = if M 65 (k : Int) = 58 then 1 else if M 65 (k : Int) = 45 then -1 else sg (M 65) k := rfl
      have ec : cn (M 65) (k + 1) = if M 65 (k : Int) = 44 then cn (M 65) k + 1 else cn (M 65) k := rfl
      have eT : TA (M 65) (k + 1) = if M 65 (k : Int) = 44 then (fun j => if j = cn (M 65) k then tm (M 65) k else TA (M 65) k j) else TA (M 65) k := rfl
      have eV : VA (M 65) (k + 1) = if M 65 (k : Int) = 44 then (fun j => if j = cn (M 65) k then sg (M 65) k * nu (M 65) k else VA (M 65) k j) else VA (M 65) k := rfl
      rw [wl_X3_readRow_14, e65]
      refine ⟨by unfold am_rg; omega, by unfold am_rg; omega, fun z => absurd z (by omega), fun _ => ⟨by omega, by unfold am_rg; omega, fun z1 => ⟨by unfold am_rg; omega, fun z2 => ⟨by unfold am_rg; omega, fun z3 => ?_, fun z3 => ?_⟩, fun z2 => ?_⟩, fun z1 => ?_⟩⟩
      · rw [if_neg z1, if_neg z2, if_neg z3] at en
        rw [if_neg z1] at et
        rw [if_neg z1, if_neg z2] at eg
        rw [if_neg z3] at ec eT eV
        have h := ih (k + 1) M1 (by omega) f g (by rw [ec]; exact e4) (by rw [ec, eT, eV]; exact ha)
        rw [en, et, eg] at h
        exact h
      · have z4 : M 65 (k : Int) = 44 := by omega
        rw [if_neg z1, if_neg z2, if_pos z4] at en
        rw [if_neg z1] at et
        rw [if_neg z1, if_neg z2] at eg
        rw [if_pos z4] at ec eT eV
        refine dp_takePoint e4 (by omega) (fun M' f' g' b1 b2 b3 b4 => ?_)
        have h := ih (k + 1) M' (by omega) (fun j h1 h2 h3 => (f' j h1 h2 h3).trans (f j h1 h2 h3)) (fun j hj => (g' j hj).trans (g j hj)) (by rw [ec]; exact b1) (by
          rw [ec, eT, eV]
          intro j j0 j1
          by_cases z : j = cn (M 65) k
          · simp only [if_pos z]; rw [z]; exact ⟨b2, b3⟩
          · simp only [if_neg z]; rw [(b4 j z).1, (b4 j z).2]; exact ha j j0 (by omega))
        rw [en, et, eg] at h
        exact h
      · have z4 : M 65 (k : Int) = 45 := by omega
        rw [if_neg z1, if_pos z4] at en
        rw [if_neg z1] at et
        rw [if_neg z1, if_pos z4] at eg
        rw [if_neg (by omega)] at ec eT eV
        have h := ih (k + 1) M1 (by omega) f g (by rw [ec]; exact e4) (by rw [ec, eT, eV]; exact ha)
        rw [en, et, eg] at h
        exact h
      · have z4 : M 65 (k : Int) = 58 := by omega
        rw [if_pos z4] at en et eg
        rw [if_neg (by omega)] at ec eT eV
        have h := ih (k + 1) M1 (by omega) f g (by rw [ec]; exact e4) (by rw [ec, eT, eV]; exact ha)
        rw [en, et, eg] at h
        exact h
  exact ⟨_, loop (M 64 1).toNat 0 (am_up M 64 4 0) (by omega) (fun k h1 _ _ => am_up_r h1) (fun j hj => am_up_n hj) am_up_s (fun j j0 j1 => absurd j1 (by unfold cn; omega))⟩
