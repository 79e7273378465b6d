theorem am_up_r {M : am_M} {k : Nat} {j x : Int} {k' : Nat} (h : k' ≠ k) : am_up M k j x k' = M k' := by
  funext j'
  unfold am_up
  rw [if_neg (fun q => h q.1)]
theorem am_up_s {M : am_M} {k : Nat} {j x : Int} : am_up M k j x k j = x := by
  unfold am_up
  rw [if_pos ⟨rfl, rfl⟩]
theorem am_up_n {M : am_M} {k : Nat} {j x : Int} {j' : Int} (h : j' ≠ j) : am_up M k j x k j' = M k j' := by
  unfold am_up
  rw [if_neg (fun q => h q.2)]
/-- the diary's own rows are the same -/
def Fr8 (M M' : am_M) : Prop := ∀ k, 1 ≤ k → k ≤ 8 → M' k = M k
theorem OKd_fr {c : Int} {M M' : am_M} (h : OKd c M) (hf : Fr8 M M') : OKd c M' := by
  unfold OKd at h ⊢
  rw [hf 1 (by omega) (by omega), hf 2 (by omega) (by omega), hf 3 (by omega) (by omega), hf 4 (by omega) (by omega), hf 6 (by omega) (by omega), hf 7 (by omega) (by omega), hf 8 (by omega) (by omega)]
  exact h
theorem sn_fr {M M' : am_M} (hf : Fr8 M M') : ∀ i, sn M' i = sn M i
  | 0 => rfl
  | i + 1 => by
    unfold sn
    rw [sn_fr hf i, hf 2 (by omega) (by omega), hf 6 (by omega) (by omega)]
theorem OKs_fr {M M' : am_M} (h : OKs M) (hf : Fr8 M M') : OKs M' := fun i hi => by
  rw [hf 1 (by omega) (by omega)] at hi
  rw [hf 5 (by omega) (by omega), sn_fr hf i]
  exact h i hi
def ek (M : am_M) (a : Int) : Int := if kb M a.toNat ≠ -1 ∧ M 5 (kb M a.toNat) = M 5 a then kb M a.toNat else -1
def lk (M : am_M) (a : Int) : Int := if kf M (M 1 7) (M 1 7 - (a + 1)).toNat ≠ -1 ∧ M 5 a = M 5 (kf M (M 1 7) (M 1 7 - (a + 1)).toNat) then kf M (M 1 7) (M 1 7 - (a + 1)).toNat else -1
theorem sp_earlierKept {a : Int} {M : am_M} {Q : Int → am_M → Prop} {c : Int} (hd : OKd c M) (hs : OKs M) (ha : 0 ≤ a ∧ a < M 1 7) (hq : Q (nn (ek M a)) M) : wp_X2_earlierKept a M Q := by
  have hd' := hd
  obtain ⟨⟨n0, n1⟩, -⟩ := hd'
  refine sp_keptBelow hd ⟨ha.1, by omega⟩ ?_
  have hk := kb_s M a.toNat
  have hnn : nn (kb M a.toNat) = -1000000 ∨ nn (kb M a.toNat) = kb M a.toNat ∧ kb M a.toNat ≠ -1 := by unfold nn; split <;> omega
  refine sp_sameStretch hd hs (by unfold am_rg; omega) (by unfold am_rg; omega) (fun q => ⟨by unfold am_rg; omega, fun e => absurd e (by omega), fun _ => ?_⟩) (fun q => ⟨by unfold am_rg; omega, fun _ => ?_, fun e => absurd rfl e⟩)
  · unfold ek at hq
    have e : nn (kb M a.toNat) = kb M a.toNat := by omega
    rw [e] at q
    rw [if_pos ⟨by omega, q.2.2⟩] at hq
    exact hq
  · unfold ek at hq
    rw [if_neg (fun z => q ?_)] at hq
    · exact hq
    · have e : nn (kb M a.toNat) = kb M a.toNat := by unfold nn; rw [if_neg z.1]
      rw [e]
      exact ⟨by omega, ha, z.2⟩
theorem sp_laterKept {a : Int} {M : am_M} {Q : Int → am_M → Prop} {c : Int} (hd : OKd c M) (hs : OKs M) (ha : 0 ≤ a ∧ a < M 1 7) (hq : Q (nn (lk M a)) M) : wp_X2_laterKept a M Q := by
  have hd' := hd
  obtain ⟨⟨n0, n1⟩, -⟩ := hd'
  refine sp_keptFrom hd ⟨by omega, by omega⟩ ?_
  have hk := kf_s M (M 1 7) (M 1 7 - (a + 1)).toNat
  have hnn : nn (kf M (M 1 7) (M 1 7 - (a + 1)).toNat) = -1000000 ∨ nn (kf M (M 1 7) (M 1 7 - (a + 1)).toNat) = kf M (M 1 7) (M 1 7 - (a + 1)).toNat ∧ kf M (M 1 7) (M 1 7 - (a + 1)).toNat ≠ -1 := by unfold nn; split <;> omega
  refine sp_sameStretch hd hs (by unfold am_rg; omega) (by unfold am_rg; omega) (fun q => ⟨by unfold am_rg; omega, fun e => absurd e (by omega), fun _ => ?_⟩) (fun q => ⟨by unfold am_rg; omega, fun _ => ?_, fun e => absurd rfl e⟩)
  · unfold lk at hq
    have e : nn (kf M (M 1 7) (M 1 7 - (a + 1)).toNat) = kf M (M 1 7) (M 1 7 - (a + 1)).toNat := by omega
    rw [e] at q
    rw [if_pos ⟨by omega, q.2.2⟩] at hq
    rw [e]
    unfold nn at hq
    rw [if_neg (by omega)] at hq
    exact hq
  · unfold lk at hq
    rw [if_neg (fun z => q ?_)] at hq
    · exact hq
    · have e : nn (kf M (M 1 7) (M 1 7 - (a + 1)).toNat) = kf M (M 1 7) (M 1 7 - (a + 1)).toNat := by unfold nn; rw [if_neg z.1]
      rw [e]
      exact ⟨ha, by omega, z.2⟩
/-! how far a point is off between two others -/
def sp_span (M : am_M) (a b : Int) : Int := if M 6 2 = 1 then 1 else M 2 b - M 2 a
def sp_rise (M : am_M) (a b : Int) : Int := if M 6 2 = 1 then 0 else M 3 b - M 3 a
def sp_ms (M : am_M) (a b k : Int) : Int := (M 3 k - M 3 a) * sp_span M a b - sp_rise M a b * (M 2 k - M 2 a)
def sp_mi (M : am_M) (a b k : Int) : Int := if 0 ≤ sp_ms M a b k then sp_ms M a b k else -sp_ms M a b k
def sp_mx (M : am_M) (a b : Int) : Nat → Int
  | 0 => -1
  | m + 1 => if sp_mx M a b m < sp_mi M a b (a + 1 + (m : Int)) then sp_mi M a b (a + 1 + (m : Int)) else sp_mx M a b m
def sp_wi (M : am_M) (a b : Int) : Nat → Int
  | 0 => -1000000
  | m + 1 => if sp_mx M a b m < sp_mi M a b (a + 1 + (m : Int)) then a + 1 + (m : Int) else sp_wi M a b m
theorem mx_s {M : am_M} {a b : Int} {m : Nat} : sp_mx M a b (m + 1) = if sp_mx M a b m < sp_mi M a b (a + 1 + (m : Int)) then sp_mi M a b (a + 1 + (m : Int)) else sp_mx M a b m := rfl
theorem wi_s {M : am_M} {a b : Int} {m : Nat} : sp_wi M a b (m + 1) = if sp_mx M a b m < sp_mi M a b (a + 1 + (m : Int)) then a + 1 + (m : Int) else sp_wi M a b m := rfl
theorem sp_pb {x y : Int} {a b : Nat} (hx : x.natAbs ≤ a) (hy : y.natAbs ≤ b) : (x * y).natAbs ≤ a * b := by
  rw [Int.natAbs_mul]
  exact Nat.mul_le_mul hx hy
theorem span_b {c : Int} {M : am_M} (hd : OKd c M) {a b : Int} (h0 : 0 ≤ a) (h1 : a < b) (h2 : b < M 1 7) : 1 ≤ sp_span M a b ∧ sp_span M a b ≤ 9999 ∧ -1998 ≤ sp_rise M a b ∧ sp_rise M a b ≤ 1998 := by
  have ta := OKd_t hd h0 (by omega)
  have tb := OKd_t hd (i := b) (by omega) h2
  have va := OKd_v hd h0 (by omega)
  have vb := OKd_v hd (i := b) (by omega) h2
  have hs := hd.2.2.1 a b h0 h1 h2
  unfold sp_span sp_rise
  split <;> omega
theorem ms_b {c : Int} {M : am_M} (hd : OKd c M) {a b k : Int} (h0 : 0 ≤ a) (h1 : a < b) (h2 : b < M 1 7) (k0 : 0 ≤ k) (k1 : k < M 1 7) : (sp_ms M a b k).natAbs ≤ 39960000 := by
  have ta := OKd_t hd h0 (by omega)
  have tk := OKd_t hd k0 k1
  have va := OKd_v hd h0 (by omega)
  have vk := OKd_v hd k0 k1
  have hs := span_b hd h0 h1 h2
  have p1 := sp_pb (x := M 3 k - M 3 a) (y := sp_span M a b) (a := 1998) (b := 9999) (by omega) (by omega)
  have p2 := sp_pb (x := sp_rise M a b) (y := M 2 k - M 2 a) (a := 1998) (b := 9999) (by omega) (by omega)
  unfold sp_ms
  omega
theorem mi_b {c : Int} {M : am_M} (hd : OKd c M) {a b k : Int} (h0 : 0 ≤ a) (h1 : a < b) (h2 : b < M 1 7) (k0 : 0 ≤ k) (k1 : k < M 1 7) : 0 ≤ sp_mi M a b k ∧ sp_mi M a b k ≤ 39960000 := by
  have h := ms_b hd h0 h1 h2 k0 k1
  unfold sp_mi
  split <;> omega
theorem mx_b {c : Int} {M : am_M} (hd : OKd c M) {a b : Int} (h0 : 0 ≤ a) (h1 : a < b) (h2 : b < M 1 7) : ∀ m : Nat, a + 1 + (m : Int) ≤ b → -1 ≤ sp_mx M a b m ∧ sp_mx M a b m ≤ 39960000
  | 0, _ => by unfold sp_mx; omega
  | m + 1, hm => by
    have ih := mx_b hd h0 h1 h2 m (by omega)
    have hk := mi_b hd h0 h1 h2 (k := a + 1 + (m : Int)) (by omega) (by omega)
    unfold sp_mx
    split <;> omega
/-- the worst between two: the greatest error is at most x just where each is -/
theorem mx_le {M : am_M} {a b x : Int} (hx : -1 ≤ x) : ∀ m : Nat, sp_mx M a b m ≤ x ↔ ∀ k, a < k → k < a + 1 + (m : Int) → sp_mi M a b k ≤ x
  | 0 => by
    unfold sp_mx
    exact ⟨fun _ k k0 k1 => by omega, fun _ => hx⟩
  | m + 1 => by
    have ih := mx_le (M := M) (a := a) (b := b) hx m
    unfold sp_mx
    constructor
    · intro h k k0 k1
      by_cases e : k = a + 1 + (m : Int)
      · subst e; split at h <;> omega
      · exact ih.mp (by split at h <;> omega) k k0 (by omega)
    · intro h
      have h1 := ih.mpr (fun k k0 k1 => h k k0 (by omega))
      have h2 := h (a + 1 + (m : Int)) (by omega) (by omega)
      split <;> omega
theorem fr9 {M : am_M} {x y : Int} : Fr8 M (am_up (am_up M 9 1 x) 9 2 y) := fun k h1 h2 => by
  rw [am_up_r (by omega), am_up_r (by omega)]
theorem sp_findWorst {a b : Int} {M : am_M} {Q : Int → am_M → Prop} {c : Int} (hd : OKd c M) (hs : OKs M) (h0 : 0 ≤ a) (h1 : a < b) (h2 : b < M 1 7) (h3 : M 5 a = M 5 b)
    (hq : ∀ M', (∀ k, k ≠ 9 → M' k = M k) → M' 9 1 = (if sp_mx M a b (b - a - 1).toNat < 0 then 0 else sp_mx M a b (b - a - 1).toNat) → M' 9 2 = sp_span M a b → Q (sp_wi M a b (b - a - 1).toNat) M') : wp_X1_findWorst a b M Q := by
  obtain ⟨M0, hM0⟩ : ∃ M0, M0 = am_up (am_up M 9 1 0) 9 2 1 := ⟨_, rfl⟩
  have f0 : ∀ k, k ≠ 9 → M0 k = M k := fun k hk => by rw [hM0, am_up_r hk, am_up_r hk]
  have hf : Fr8 M M0 := fun k k1 k2 => f0 k (by omega)
  have hd0 := OKd_fr hd hf
  have hs0 := OKs_fr hs hf
  have hd' := hd
  obtain ⟨⟨n0, n1⟩, -⟩ := hd'
  have hsp := span_b hd h0 h1 h2
  have loop : ∀ (r m : Nat), a + 1 + (m : Int) + r = b → wl_X1_findWorst_112 Q (r + 1) b (sp_span M a b) (sp_rise M a b) (M 2 a) (M 3 a) (sp_wi M a b m) (sp_mx M a b m) (a + 1 + (m : Int)) M0 := by
    intro r
    induction r with
    | zero =>
      intro m hm
      have hx := mx_b hd h0 h1 h2 m (by omega)
      refine ⟨by unfold am_rg; omega, by unfold am_rg; omega, fun _ => ⟨by unfold am_rg; omega, ?_⟩, fun q => absurd q (by omega)⟩
      have em : m = (b - a - 1).toNat := by omega
      rw [← em] at hq
      refine hq _ (fun k hk => by rw [am_up_r hk, am_up_r hk, f0 k hk]) (by rw [am_up_n (by omega), am_up_s]) (by rw [am_up_s])
    | succ r ih =>
      intro m hm
      have hx := mx_b hd h0 h1 h2 m (by omega)
      have hk := ms_b hd h0 h1 h2 (k := a + 1 + (m : Int)) (by omega) (by omega)
      have e : (M0 3 (a + 1 + (m : Int)) - M 3 a) * sp_span M a b - sp_rise M a b * (M0 2 (a + 1 + (m : Int)) - M 2 a) = sp_ms M a b (a + 1 + (m : Int)) := by
        rw [f0 3 (by omega), f0 2 (by omega)]; rfl
      have J : ∀ v13, v13 = sp_mi M a b (a + 1 + (m : Int)) → wj_X1_findWorst_152 Q (wl_X1_findWorst_112 Q (r + 1)) b (sp_span M a b) (sp_rise M a b) (M 2 a) (M 3 a) (sp_wi M a b m) (sp_mx M a b m) (a + 1 + (m : Int)) v13 M0 := by
        intro v13 hv
        have hmi := mi_b hd h0 h1 h2 (k := a + 1 + (m : Int)) (by omega) (by omega)
        have ih' := ih (m + 1) (by omega)
        have e2 : a + 1 + ((m + 1 : Nat) : Int) = a + 1 + (m : Int) + 1 := by omega
        rw [e2] at ih'
        refine ⟨by unfold am_rg; omega, by unfold am_rg; omega, fun q => ?_, fun q => ?_⟩
        · rw [wi_s, mx_s, if_neg (by omega), if_neg (by omega)] at ih'
          exact ih'
        · rw [wi_s, mx_s, if_pos (by omega), if_pos (by omega), ← hv] at ih'
          exact ih'
      refine ⟨by unfold am_rg; omega, by unfold am_rg; omega, fun q => absurd q (by omega), fun q => ⟨by omega, by omega, by rw [e]; unfold am_rg; omega, fun q2 => ?_, fun q2 => ?_⟩⟩
      · refine J _ ?_
        rw [e] at q2 ⊢
        unfold sp_mi
        rw [if_pos q2]
      · refine J _ ?_
        rw [e] at q2 ⊢
        unfold sp_mi
        rw [if_neg q2]
  have fin : ∃ e, wl_X1_findWorst_112 Q e b (sp_span M a b) (sp_rise M a b) (M0 2 a) (M0 3 a) (-1000000) (-1) (a + 1) M0 := by
    refine ⟨(b - a - 1).toNat + 1, ?_⟩
    rw [f0 2 (by omega), f0 3 (by omega)]
    have h := loop (b - a - 1).toNat 0 (by omega)
    rw [show a + 1 + ((0 : Nat) : Int) = a + 1 by omega] at h
    exact h
  unfold wp_X1_findWorst
  rw [← hM0]
  refine sp_sameStretch hd0 hs0 (by unfold am_rg; omega) (by unfold am_rg; omega) (fun _ => ⟨by unfold am_rg; omega, fun _ => ?_, fun e => absurd e (by omega)⟩) (fun q => absurd ?_ q)
  · refine sp_isStep hd0 (fun e => ⟨by unfold am_rg; omega, fun z => absurd z (by omega), fun _ => ?_⟩) (fun e => ⟨by unfold am_rg; omega, fun _ => ⟨by omega, by omega, ?_⟩, fun z => absurd rfl z⟩)
    · rw [f0 6 (by omega)] at e
      refine ⟨by unfold am_rg; omega, fun z => absurd z (by omega), fun _ => ⟨by omega, by omega, ?_⟩⟩
      have e1 : sp_span M a b = 1 := by unfold sp_span; rw [if_pos e]
      have e2 : sp_rise M a b = 0 := by unfold sp_rise; rw [if_pos e]
      rw [e1, e2] at fin
      exact fin
    · rw [f0 6 (by omega)] at e
      refine ⟨by unfold am_rg; omega, fun _ => ⟨by omega, by omega, by omega, by omega, ?_⟩, fun z => absurd rfl z⟩
      have e1 : sp_span M a b = M0 2 b - M0 2 a := by unfold sp_span; rw [if_neg (by omega), f0 2 (by omega)]
      have e2 : sp_rise M a b = M0 3 b - M0 3 a := by unfold sp_rise; rw [if_neg (by omega), f0 3 (by omega)]
      rw [e1, e2] at fin
      exact fin
  · rw [f0 1 (by omega), f0 5 (by omega)]
    exact ⟨⟨h0, by omega⟩, ⟨by omega, h2⟩, h3⟩
