/-! the buffer -/
def pa (p c : Int) : Int :=
  if p = 0 then (if c = 48 then 1 else if 48 ≤ c ∧ c ≤ 57 then 2 else -1)
  else if p ≤ 5 then (if c = 58 then 6 else if p = 1 ∨ p = 5 then -1 else if 48 ≤ c ∧ c ≤ 57 then p + 1 else -1)
  else if p = 6 ∧ c = 45 then 7
  else if p ≤ 7 then (if c = 48 then 8 else if 48 ≤ c ∧ c ≤ 57 then 9 else -1)
  else if c = 44 then 0
  else if p = 8 ∨ p = 11 then -1 else if 48 ≤ c ∧ c ≤ 57 then p + 1 else -1
theorem pa_b {p c : Int} (h : 0 ≤ p ∧ p ≤ 11) : -1 ≤ pa p c ∧ pa p c ≤ 11 := by
  unfold pa
  (repeat' split) <;> omega
theorem dp_placeAfter {p c : Int} {M : am_M} {Q : Int → am_M → Prop} (h : 0 ≤ p ∧ p ≤ 11) (hc : 33 ≤ c ∧ c ≤ 126) (hq : Q (pa p c) M) : wp_X3_placeAfter p c M Q := by
  have hq' : ∀ x, x = pa p c → Q x M := fun x e => by rw [e]; exact hq
  unfold pa at hq'
  unfold wp_X3_placeAfter wj_X3_placeAfter_75 wj_X3_placeAfter_110 wj_X3_placeAfter_115 wj_X3_placeAfter_35 wj_X3_placeAfter_40 wp_X3_placeAfterFirstDigit wp_X3_isDigit am_rg
  repeat' (first | refine And.intro ?_ ?_ | intro _)
  all_goals first | omega | (apply hq'; (repeat' split) <;> omega)
def st (t : Int → Int) : Nat → Int
  | 0 => 0
  | i + 1 => if st t i = -1 then -1 else pa (st t i) (t (i : Int))
theorem st_b (t : Int → Int) : ∀ i, -1 ≤ st t i ∧ st t i ≤ 11
  | 0 => by unfold st; omega
  | i + 1 => by
    have ih := st_b t i
    unfold st
    split
    · omega
    · exact pa_b (by omega)
theorem st_w {t : Int → Int} {i : Nat} (h : st t i = -1) : ∀ d, st t (i + d) = -1
  | 0 => h
  | d + 1 => by
    have := st_w h d
    show (if st t (i + d) = -1 then -1 else pa (st t (i + d)) (t ((i + d : Nat) : Int))) = -1
    rw [if_pos this]
/-- so many characters are good -/
def GL (t : Int → Int) (L r : Int) : Prop := 0 ≤ r ∧ r ≤ L ∧ st t r.toNat ≠ -1 ∧ (r = L ∨ pa (st t r.toNat) (t r) = -1)
theorem GL_le {t : Int → Int} {L r s : Int} (h : GL t L r) (g : GL t L s) : s ≤ r := by
  by_cases z : r < s
  · rcases h.2.2.2 with e | e
    · have := g.2.1; omega
    · have hs : st t (r.toNat + 1) = -1 := by
        show (if st t r.toNat = -1 then -1 else pa (st t r.toNat) (t ((r.toNat : Nat) : Int))) = -1
        rw [if_neg h.2.2.1, show ((r.toNat : Nat) : Int) = r by have := h.1; omega]
        exact e
      have := st_w hs (s.toNat - (r.toNat + 1))
      rw [show r.toNat + 1 + (s.toNat - (r.toNat + 1)) = s.toNat by have := h.1; omega] at this
      exact absurd this g.2.2.1
  · omega
theorem GL_u {t : Int → Int} {L r s : Int} (h : GL t L r) (g : GL t L s) : r = s := Int.le_antisymm (GL_le g h) (GL_le h g)
/-- the component's buffer is in order -/
def OKt (M : am_M) : Prop := (0 ≤ M 64 1 ∧ M 64 1 ≤ 60) ∧ ∀ i, 0 ≤ i → i < M 64 1 → 33 ≤ M 65 i ∧ M 65 i ≤ 126
theorem dp_goodLength {M : am_M} {Q : Int → am_M → Prop} (h : OKt M) (hq : ∀ r, GL (M 65) (M 64 1) r → Q r M) : wp_X3_goodLength M Q := by
  obtain ⟨⟨l0, l1⟩, hc⟩ := h
  have loop : ∀ (r k : Nat), (k : Int) + r = M 64 1 → st (M 65) k ≠ -1 → wl_X3_goodLength_4 Q (r + 1) (st (M 65) k) (k : Int) M := by
    intro r
    induction r with
    | zero =>
      intro k hk hs
      refine ⟨by unfold am_rg; omega, by unfold am_rg; omega, fun _ => hq _ ⟨by omega, by omega, ?_, Or.inl rfl⟩, fun q => absurd q (by omega)⟩
      rw [show (M 64 1).toNat = k by omega]
      exact hs
    | succ r ih =>
      intro k hk hs
      have hb := st_b (M 65) k
      have hp := pa_b (p := st (M 65) k) (c := M 65 (k : Int)) (by omega)
      have es : st (M 65) (k + 1) = pa (st (M 65) k) (M 65 (k : Int)) := by
        show (if st (M 65) k = -1 then -1 else pa (st (M 65) k) (M 65 (k : Int))) = _
        rw [if_neg hs]
      refine ⟨by unfold am_rg; omega, by unfold am_rg; omega, fun q => absurd q (by omega), fun _ => ⟨by omega, dp_placeAfter (by omega) (hc _ (by omega) (by omega)) ⟨by unfold am_rg; omega, fun e => ?_, fun e => hq _ ⟨by omega, by omega, ?_, Or.inr ?_⟩⟩⟩⟩
      · rw [← es] at e ⊢
        exact ih (k + 1) (by omega) e
      · rw [show ((k : Int)).toNat = k by omega]; exact hs
      · rw [show ((k : Int)).toNat = k by omega]; omega
  exact ⟨_, loop (M 64 1).toNat 0 (by omega) (by unfold st; omega)⟩
theorem dp_isRow {M : am_M} {Q : Int → am_M → Prop} (h : OKt M) (q1 : 8 ≤ st (M 65) (M 64 1).toNat → Q 1 M) (q0 : st (M 65) (M 64 1).toNat < 8 → Q 0 M) : wp_X3_isRow M Q := by
  obtain ⟨⟨l0, l1⟩, hc⟩ := h
  have fin : wj_X3_isRow_34 Q (st (M 65) (M 64 1).toNat) M := by
    have hb := st_b (M 65) (M 64 1).toNat
    exact ⟨by unfold am_rg; omega, fun e => q0 e, fun e => q1 (by omega)⟩
  have loop : ∀ (r k : Nat), (k : Int) + r = M 64 1 → wl_X3_isRow_4 Q (r + 1) (st (M 65) k) (k : Int) M := by
    intro r
    induction r with
    | zero =>
      intro k hk
      refine ⟨by unfold am_rg; omega, by unfold am_rg; omega, fun _ => ?_, fun q => absurd q (by omega)⟩
      rw [show k = (M 64 1).toNat by omega]
      exact fin
    | succ r ih =>
      intro k hk
      have hb := st_b (M 65) k
      refine ⟨by unfold am_rg; omega, by unfold am_rg; omega, fun q => absurd q (by omega), fun _ => ⟨by unfold am_rg; omega, fun e => ?_, fun e => ⟨by omega, dp_placeAfter (by omega) (hc _ (by omega) (by omega)) ?_⟩⟩⟩
      · have := st_w e ((M 64 1).toNat - k)
        rw [show k + ((M 64 1).toNat - k) = (M 64 1).toNat by omega] at this
        rw [e, ← this]
        exact fin
      · have es : st (M 65) (k + 1) = pa (st (M 65) k) (M 65 (k : Int)) := by
          show (if st (M 65) k = -1 then -1 else pa (st (M 65) k) (M 65 (k : Int))) = _
          rw [if_neg e]
        rw [← es]
        exact ih (k + 1) (by omega)
  exact ⟨_, loop (M 64 1).toNat 0 (by omega)⟩
/-! what is read -/
def nu (t : Int → Int) : Nat → Int
  | 0 => 0
  | i + 1 => if t (i : Int) = 58 then 0 else if t (i : Int) = 45 then nu t i else if t (i : Int) = 44 then 0 else 10 * nu t i + t (i : Int) - 48
def tm (t : Int → Int) : Nat → Int
  | 0 => 0
  | i + 1 => if t (i : Int) = 58 then nu t i else tm t i
def sg (t : Int → Int) : Nat → Int
  | 0 => 1
  | i + 1 => if t (i : Int) = 58 then 1 else if t (i : Int) = 45 then -1 else sg t i
def cn (t : Int → Int) : Nat → Int
  | 0 => 0
  | i + 1 => if t (i : Int) = 44 then cn t i + 1 else cn t i
def TA (t : Int → Int) : Nat → Int → Int
  | 0 => fun _ => 0
  | i + 1 => if t (i : Int) = 44 then (fun k => if k = cn t i then tm t i else TA t i k) else TA t i
def VA (t : Int → Int) : Nat → Int → Int
  | 0 => fun _ => 0
  | i + 1 => if t (i : Int) = 44 then (fun k => if k = cn t i then sg t i * nu t i else VA t i k) else VA t i
theorem pa_s {s x : Int} (h0 : 0 ≤ s ∧ s ≤ 11) (h : pa s x ≠ -1) : (s = 0 ∧ x = 48 ∧ pa s x = 1) ∨ (s = 0 ∧ (49 ≤ x ∧ x ≤ 57) ∧ pa s x = 2) ∨ ((1 ≤ s ∧ s ≤ 5) ∧ x = 58 ∧ pa s x = 6) ∨ ((2 ≤ s ∧ s ≤ 4) ∧ (48 ≤ x ∧ x ≤ 57) ∧ pa s x = s + 1) ∨ (s = 6 ∧ x = 45 ∧ pa s x = 7) ∨ ((6 ≤ s ∧ s ≤ 7) ∧ x = 48 ∧ pa s x = 8) ∨ ((6 ≤ s ∧ s ≤ 7) ∧ (49 ≤ x ∧ x ≤ 57) ∧ pa s x = 9) ∨ (8 ≤ s ∧ x = 44 ∧ pa s x = 0) ∨ ((9 ≤ s ∧ s ≤ 10) ∧ (48 ≤ x ∧ x ≤ 57) ∧ pa s x = s + 1) := by
  obtain ⟨y, hy⟩ : ∃ y, y = pa s x := ⟨_, rfl⟩
  rw [← hy] at h ⊢
  unfold pa at hy
  (repeat' split at hy) <;> first | (exfalso; omega) | exact Or.inl ⟨by omega, by omega, by omega⟩ | exact Or.inr (Or.inl ⟨by omega, by omega, by omega⟩) | exact Or.inr (Or.inr (Or.inl ⟨by omega, by omega, by omega⟩)) | exact Or.inr (Or.inr (Or.inr (Or.inl ⟨by omega, by omega, by omega⟩))) | exact Or.inr (Or.inr (Or.inr (Or.inr (Or.inl ⟨by omega, by omega, by omega⟩)))) | exact Or.inr (Or.inr (Or.inr (Or.inr (Or.inr (Or.inl ⟨by omega, by omega, by omega⟩))))) | exact Or.inr (Or.inr (Or.inr (Or.inr (Or.inr (Or.inr (Or.inl ⟨by omega, by omega, by omega⟩)))))) | exact Or.inr (Or.inr (Or.inr (Or.inr (Or.inr (Or.inr (Or.inr (Or.inl ⟨by omega, by omega, by omega⟩))))))) | exact Or.inr (Or.inr (Or.inr (Or.inr (Or.inr (Or.inr (Or.inr (Or.inr (⟨by omega, by omega, by omega⟩))))))))
def TXN (s n m g c i : Int) : Prop := (0 ≤ m ∧ m ≤ 9999) ∧ 0 ≤ c ∧ (g = 1 ∨ g = -1) ∧ (0 ≤ n ∧ n ≤ 9999) ∧ (s = 0 → n = 0 ∧ 4 * c ≤ i) ∧ (s = 1 → n = 0) ∧ (s = 2 → n ≤ 9) ∧ (s = 3 → n ≤ 99) ∧ (s = 4 → n ≤ 999) ∧ (1 ≤ s → 4 * c + 1 ≤ i) ∧ (6 ≤ s → 4 * c + 2 ≤ i) ∧ (7 ≤ s → 4 * c + 3 ≤ i) ∧ (6 ≤ s → s ≤ 8 → n = 0) ∧ (s = 9 → n ≤ 9) ∧ (s = 10 → n ≤ 99) ∧ (s = 11 → n ≤ 999) ∧ (s = 6 → g = 1) ∧ (s = 7 → g = -1)
theorem TXN_s {s n m g c i x n' m' g' c' : Int} (h : TXN s n m g c i) (h0 : 0 ≤ s ∧ s ≤ 11) (hp : pa s x ≠ -1) (en : n' = if x = 58 then 0 else if x = 45 then n else if x = 44 then 0 else 10 * n + x - 48) (em : m' = if x = 58 then n else m) (eg : g' = if x = 58 then 1 else if x = 45 then -1 else g) (ec : c' = if x = 44 then c + 1 else c) : TXN (pa s x) n' m' g' c' (i + 1) := by
  rcases pa_s h0 hp with ⟨e, f, q⟩ | ⟨e, f, q⟩ | ⟨e, f, q⟩ | ⟨e, f, q⟩ | ⟨e, f, q⟩ | ⟨e, f, q⟩ | ⟨e, f, q⟩ | ⟨e, f, q⟩ | ⟨e, f, q⟩ <;> rw [q] <;> clear q hp
  · have hn : n' = 10 * n + x - 48 := by rw [en, if_neg (by omega), if_neg (by omega), if_neg (by omega)]
    have hm : m' = m := by rw [em, if_neg (by omega)]
    have hg : g' = g := by rw [eg, if_neg (by omega), if_neg (by omega)]
    have hc : c' = c := by rw [ec, if_neg (by omega)]
    clear en em eg ec
    unfold TXN at h ⊢
    obtain ⟨a1, a2, a3, a4, a5, a6, a7, a8, a9, a10, a11, a12, a13, a14, a15, a16, a17, a18⟩ := h
    clear a4 a6 a7 a8 a9 a10 a11 a12 a13 a14 a15 a16 a17 a18
    (repeat' apply And.intro) <;> omega
  · have hn : n' = 10 * n + x - 48 := by rw [en, if_neg (by omega), if_neg (by omega), if_neg (by omega)]
    have hm : m' = m := by rw [em, if_neg (by omega)]
    have hg : g' = g := by rw [eg, if_neg (by omega), if_neg (by omega)]
    have hc : c' = c := by rw [ec, if_neg (by omega)]
    clear en em eg ec
    unfold TXN at h ⊢
    obtain ⟨a1, a2, a3, a4, a5, a6, a7, a8, a9, a10, a11, a12, a13, a14, a15, a16, a17, a18⟩ := h
    clear a4 a6 a7 a8 a9 a10 a11 a12 a13 a14 a15 a16 a17 a18
    (repeat' apply And.intro) <;> omega
  · have hn : n' = 0 := by rw [en, if_pos f]
    have hm : m' = n := by rw [em, if_pos f]
    have hg : g' = 1 := by rw [eg, if_pos f]
    have hc : c' = c := by rw [ec, if_neg (by omega)]
    clear en em eg ec
    unfold TXN at h ⊢
    obtain ⟨a1, a2, a3, a4, a5, a6, a7, a8, a9, a10, a11, a12, a13, a14, a15, a16, a17, a18⟩ := h
    clear a1 a3 a5 a6 a7 a8 a9 a11 a12 a13 a14 a15 a16 a17 a18
    (repeat' apply And.intro) <;> omega
  · have hn : n' = 10 * n + x - 48 := by rw [en, if_neg (by omega), if_neg (by omega), if_neg (by omega)]
    have hm : m' = m := by rw [em, if_neg (by omega)]
    have hg : g' = g := by rw [eg, if_neg (by omega), if_neg (by omega)]
    have hc : c' = c := by rw [ec, if_neg (by omega)]
    clear en em eg ec
    unfold TXN at h ⊢
    obtain ⟨a1, a2, a3, a4, a5, a6, a7, a8, a9, a10, a11, a12, a13, a14, a15, a16, a17, a18⟩ := h
    clear a5 a6 a11 a12 a13 a14 a15 a16 a17 a18
    (repeat' apply And.intro) <;> omega
  · have hn : n' = n := by rw [en, if_neg (by omega), if_pos f]
    have hm : m' = m := by rw [em, if_neg (by omega)]
    have hg : g' = -1 := by rw [eg, if_neg (by omega), if_pos f]
    have hc : c' = c := by rw [ec, if_neg (by omega)]
    clear en em eg ec
    unfold TXN at h ⊢
    obtain ⟨a1, a2, a3, a4, a5, a6, a7, a8, a9, a10, a11, a12, a13, a14, a15, a16, a17, a18⟩ := h
    clear a3 a4 a5 a6 a7 a8 a9 a10 a12 a14 a15 a16 a17 a18
    (repeat' apply And.intro) <;> omega
  · have hn : n' = 10 * n + x - 48 := by rw [en, if_neg (by omega), if_neg (by omega), if_neg (by omega)]
    have hm : m' = m := by rw [em, if_neg (by omega)]
    have hg : g' = g := by rw [eg, if_neg (by omega), if_neg (by omega)]
    have hc : c' = c := by rw [ec, if_neg (by omega)]
    clear en em eg ec
    unfold TXN at h ⊢
    obtain ⟨a1, a2, a3, a4, a5, a6, a7, a8, a9, a10, a11, a12, a13, a14, a15, a16, a17, a18⟩ := h
    clear a4 a5 a6 a7 a8 a9 a10 a12 a14 a15 a16 a17 a18
    (repeat' apply And.intro) <;> omega
  · have hn : n' = 10 * n + x - 48 := by rw [en, if_neg (by omega), if_neg (by omega), if_neg (by omega)]
    have hm : m' = m := by rw [em, if_neg (by omega)]
    have hg : g' = g := by rw [eg, if_neg (by omega), if_neg (by omega)]
    have hc : c' = c := by rw [ec, if_neg (by omega)]
    clear en em eg ec
    unfold TXN at h ⊢
    obtain ⟨a1, a2, a3, a4, a5, a6, a7, a8, a9, a10, a11, a12, a13, a14, a15, a16, a17, a18⟩ := h
    clear a4 a5 a6 a7 a8 a9 a10 a12 a14 a15 a16 a17 a18
    (repeat' apply And.intro) <;> omega
  · have hn : n' = 0 := by rw [en, if_neg (by omega), if_neg (by omega), if_pos f]
    have hm : m' = m := by rw [em, if_neg (by omega)]
    have hg : g' = g := by rw [eg, if_neg (by omega), if_neg (by omega)]
    have hc : c' = c + 1 := by rw [ec, if_pos f]
    clear en em eg ec
    unfold TXN at h ⊢
    obtain ⟨a1, a2, a3, a4, a5, a6, a7, a8, a9, a10, a11, a12, a13, a14, a15, a16, a17, a18⟩ := h
    clear a4 a5 a6 a7 a8 a9 a10 a11 a13 a14 a15 a16 a17 a18
    (repeat' apply And.intro) <;> omega
  · have hn : n' = 10 * n + x - 48 := by rw [en, if_neg (by omega), if_neg (by omega), if_neg (by omega)]
    have hm : m' = m := by rw [em, if_neg (by omega)]
    have hg : g' = g := by rw [eg, if_neg (by omega), if_neg (by omega)]
    have hc : c' = c := by rw [ec, if_neg (by omega)]
    clear en em eg ec
    unfold TXN at h ⊢
    obtain ⟨a1, a2, a3, a4, a5, a6, a7, a8, a9, a10, a11, a12, a13, a14, a15, a16, a17, a18⟩ := h
    clear a5 a6 a7 a8 a9 a10 a11 a13 a16 a17 a18
    (repeat' apply And.intro) <;> omega
def TXA (t : Int → Int) (i : Nat) : Prop := ∀ k, 0 ≤ k → k < cn t i → (0 ≤ TA t i k ∧ TA t i k ≤ 9999) ∧ (-999 ≤ VA t i k ∧ VA t i k ≤ 999)
theorem st_s {t : Int → Int} {i : Nat} (h : st t i ≠ -1) : st t (i + 1) = pa (st t i) (t (i : Int)) := by
  show (if st t i = -1 then -1 else pa (st t i) (t (i : Int))) = _
  rw [if_neg h]
theorem tx_b (t : Int → Int) : ∀ i : Nat, st t i ≠ -1 → TXN (st t i) (nu t i) (tm t i) (sg t i) (cn t i) (i : Int) ∧ TXA t i
  | 0, _ => by
    refine ⟨?_, fun k k0 k1 => absurd k1 (by unfold cn; omega)⟩
    unfold TXN st tm cn sg nu
    (repeat' apply And.intro) <;> omega
  | i + 1, h => by
    have hi : st t i ≠ -1 := fun e => h (st_w e 1)
    obtain ⟨ih, ia⟩ := tx_b t i hi
    have hb := st_b t i
    have es := st_s hi
    rw [es] at h
    refine ⟨?_, ?_⟩
    · rw [es, show ((i + 1 : Nat) : Int) = (i : Int) + 1 by omega]
      exact TXN_s ih (by omega) h rfl rfl rfl rfl
    · have ec : cn t (i + 1) = if t (i : Int) = 44 then cn t i + 1 else cn t i := rfl
      have eT : TA t (i + 1) = if t (i : Int) = 44 then (fun k => if k = cn t i then tm t i else TA t i k) else TA t i := rfl
      have eV : VA t (i + 1) = if t (i : Int) = 44 then (fun k => if k = cn t i then sg t i * nu t i else VA t i k) else VA t i := rfl
      intro k k0 k1
      by_cases z : t (i : Int) = 44
      · rw [if_pos z] at eT eV ec
        rw [eT, eV]
        by_cases y : k = cn t i
        · simp only [if_pos y]
          have h8 := pa_s (by omega) h
          unfold TXN at ih
          obtain ⟨a1, a2, a3, a4, a5, a6, a7, a8, a9, a10, a11, a12, a13, a14, a15, a16, a17, a18⟩ := ih
          have hn : nu t i ≤ 999 := by omega
          refine ⟨a1, ?_⟩
          rcases a3 with e | e <;> rw [e] <;> omega
        · simp only [if_neg y]
          exact ia k k0 (by omega)
      · rw [if_neg z] at eT eV ec
        rw [eT, eV]
        exact ia k k0 (by omega)
