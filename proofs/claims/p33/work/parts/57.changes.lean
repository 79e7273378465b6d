/-! the law's changes: what holds of the diary behind each -/
/-- thin, behind questions of the diary D -/
theorem dp_thinD {w : Int} {D M : am_M} {Q : Int → am_M → Prop} {X : am_X} {c : Int} (hC : Cp c D) (a : Ask D D M) (hc : c + 1 ≤ 1000) (hw : 0 ≤ w ∧ w ≤ 2)
    (hq : ∀ M', Mut c D M' (thD D w) → Q (chn D w (D 6 0)) M') : wp_X5_thin w M Q X := by
  obtain ⟨hd, hs, hN, r1, r2, ht⟩ := hC
  have hd' := hd
  obtain ⟨⟨n0, n1⟩, -⟩ := hd'
  have e14 : M 14 = D 14 := a.1 14 (by omega)
  refine dp_refuseOutside (by unfold am_rg; omega) (by unfold am_rg; omega) (fun h => ?_) (fun z => absurd hw z)
  refine dp_remember (by rw [e14]; exact r1) (by rw [e14]; exact r2) (fun M1 f1 e15 hp1 => ?_)
  have F : Fr8 D M1 := Fr8_t (Fc_f Fr8_r a.1) (Fh_f f1)
  refine dp_choose hd hs F (NV_m a.2 (f1 10 (by omega)) (f1 13 (by omega))) h (fun M4 f4 v4 g4 => ?_)
  have F4 := Fc_f F f4
  have loop : ∀ (r k : Nat) (M5 : am_M), (k : Int) + r = D 1 7 → (∀ j, j ≠ 4 → M5 j = M4 j) → (∀ i, 0 ≤ i → i < (k : Int) → M5 4 i = M4 11 i) → wl_X5_thin_26 Q X (r + 1) (chn D w (D 6 0)) (k : Int) M5 := by
    intro r
    induction r with
    | zero =>
      intro k M5 hk f g
      have e1 : M5 1 = D 1 := (f 1 (by omega)).trans (fr_1 F4)
      rw [wl_X5_thin_26, e1]
      refine ⟨by unfold am_rg; omega, by unfold am_rg; omega, fun _ => ?_, fun e => absurd e (by omega)⟩
      have sm : Sm D (am_up M5 1 9 (D 1 9 + 1)) := by
        refine ⟨?_, ?_, ?_, ?_, ?_⟩
        · rw [am_up_n (by omega), e1]
        · rw [am_up_r (by omega), f 2 (by omega)]; exact fr_2 F4
        · rw [am_up_r (by omega), f 3 (by omega)]; exact fr_3 F4
        · rw [am_up_r (by omega), f 5 (by omega)]; exact fr_5 F4
        · rw [am_up_r (by omega), f 6 (by omega)]; exact fr_6 F4
      have en : EQn (am_up M5 1 9 (D 1 9 + 1)) (thD D w) := by
        refine ⟨?_, ?_, ?_, ?_, fun i i0 i1 => ?_, fun i i0 i1 => ?_, fun i i0 i1 => ?_⟩
        · rw [thD_1 (by omega), am_up_n (by omega), e1]
        · rw [thD_1 (by omega), am_up_n (by omega), e1]
        · rw [thD_9, am_up_s]
        · rw [thD_1 (by omega), am_up_n (by omega), e1]
        · rw [thD_1 (by omega)] at i1
          rw [thD_k (by omega) (by omega), thD_k (by omega) (by omega), thD_4, sm.2.1, sm.2.2.1, am_up_r (by omega), g i i0 (by omega), g4 i i0 i1]
          exact ⟨rfl, rfl, rfl⟩
        · rw [thD_k (by omega) (by omega), sm.2.2.2.2]
        · rw [thD_k (by omega) (by omega), thD_k (by omega) (by omega), am_up_r (by omega), am_up_r (by omega), f 7 (by omega), f 8 (by omega), fr_7 F4, fr_8 F4]
          exact ⟨rfl, rfl⟩
      refine hq _ ⟨fun j j1 j2 => ?_, HPc_t (fun k hk => (a.1 k (by omega)).symm) (fun j j1 j2 => ?_) hp1, en, OKd_n (OKd_th hd hc) en, OKs_sm hs sm, NV_sm (NV_m v4 ?_ ?_) sm⟩
      · rw [am_up_r (by omega), f j (by omega), f4 j (by omega), f1 j (by omega)]; exact a.1 j (by omega)
      · rw [am_up_r (by omega), f j (by omega)]; exact f4 j (by omega)
      · rw [am_up_r (by omega)]; exact f 10 (by omega)
      · rw [am_up_r (by omega)]; exact f 13 (by omega)
    | succ r ih =>
      intro k M5 hk f g
      have e1 : M5 1 = D 1 := (f 1 (by omega)).trans (fr_1 F4)
      rw [wl_X5_thin_26, e1]
      refine ⟨by unfold am_rg; omega, by unfold am_rg; omega, fun e => absurd e (by omega), fun _ => ⟨by omega, by omega, ?_⟩⟩
      refine ih (k + 1) _ (by omega) (fun j hj => by rw [am_up_r hj]; exact f j hj) (fun i i0 i1 => ?_)
      by_cases z : i = (k : Int)
      · rw [z, am_up_s, f 11 (by omega)]
      · rw [am_up_n z]; exact g i i0 (by omega)
  exact ⟨_, loop (D 1 7).toNat 0 M4 (by omega) (fun _ _ => rfl) (fun i i0 i1 => by omega)⟩
def V60 (M : am_M) : Prop := ∀ i, 0 ≤ i → i < M 1 7 → -60 ≤ M 3 i ∧ M 3 i ≤ 60
def Iv (c : Int) (M : am_M) : Prop := Cp c M ∧ V60 M
theorem Cp_ask {c : Int} {M M' : am_M} (h : Cp c M) (a : Ask M M M') : Cp c M' := by
  obtain ⟨hd, hs, hN, r1, r2, ht⟩ := h
  have F : Fr8 M M' := Fc_f Fr8_r a.1
  have e14 : M' 14 = M 14 := a.1 14 (by omega)
  refine ⟨OKd_fr hd F, OKs_fr hs F, NV_sm a.2 (Sm_fr F), by rw [e14]; exact r1, by rw [e14]; exact r2, ?_⟩
  unfold OKt at ht ⊢
  rw [a.1 64 (by omega), a.1 65 (by omega)]
  exact ht
theorem Cp_mut {c : Int} {M M' D' : am_M} (h : Cp c M) (m : Mut c M M' D') : Cp (c + 1) M' := by
  obtain ⟨hd, hs, hN, r1, r2, ht⟩ := h
  obtain ⟨m1, m2, m3, m4, m5, m6⟩ := m
  refine ⟨m4, m5, m6, m2.1, ?_, ?_⟩
  · rw [m2.2.1]; split <;> omega
  · unfold OKt at ht ⊢
    rw [m1 64 (by omega) (by omega), m1 65 (by omega) (by omega)]
    exact ht
theorem Cp_c {c c' : Int} {M : am_M} (h : Cp c M) (h1 : c ≤ c') (h2 : c' ≤ 1000) : Cp c' M := ⟨OKd_c h.1 h1 h2, h.2⟩
theorem V60_ask {M M' : am_M} (h : V60 M) (a : Ask M M M') : V60 M' := by
  have F : Fr8 M M' := Fc_f Fr8_r a.1
  unfold V60 at h ⊢
  rw [fr_1 F, fr_3 F]
  exact h
theorem Iv_ask {c : Int} {M M' : am_M} (h : Iv c M) (a : Ask M M M') : Iv c M' := ⟨Cp_ask h.1 a, V60_ask h.2 a⟩
theorem V60_eqn {A B : am_M} (e : EQn A B) (h : V60 B) : V60 A := fun i i0 i1 => by
  rw [e.1] at i1
  rw [(e.2.2.2.2.1 i i0 i1).2.1]
  exact h i i0 i1
theorem Iv_mut {c : Int} {M M' D' : am_M} (h : Cp c M) (m : Mut c M M' D') (v : V60 D') : Iv (c + 1) M' := ⟨Cp_mut h m, V60_eqn m.2.2.1 v⟩
theorem V60_up {M : am_M} (h : V60 M) {k : Nat} {p x : Int} (hk : k ≠ 1) (h3 : k = 3 → -60 ≤ x ∧ x ≤ 60) : V60 (am_up M k p x) := fun i i0 i1 => by
  rw [am_up_r (fun z => hk z.symm)] at i1
  by_cases z : k = 3
  · subst z
    by_cases y : i = p
    · rw [y, am_up_s]; exact h3 rfl
    · rw [am_up_n y]; exact h i i0 i1
  · rw [am_up_r (fun y => z y.symm)]; exact h i i0 i1
theorem Ask_ex {M : am_M} (h : NV M M) : Ask M M M := Ask_r h
/-! what is kept is counted -/
theorem kc_up {M : am_M} {p : Nat} {x : Int} : ∀ m : Nat, (m ≤ p → kc (am_up M 4 p x) m = kc M m) ∧ (p < m → kc (am_up M 4 p x) m = kc M m + (x - M 4 (p : Int)))
  | 0 => ⟨fun _ => rfl, fun h => by omega⟩
  | m + 1 => by
    obtain ⟨i1, i2⟩ := kc_up (M := M) (p := p) (x := x) m
    have e1 : kc (am_up M 4 p x) (m + 1) = kc (am_up M 4 p x) m + am_up M 4 p x 4 (m : Int) := rfl
    have e2 : kc M (m + 1) = kc M m + M 4 (m : Int) := rfl
    refine ⟨fun h => ?_, fun h => ?_⟩
    · rw [e1, e2, i1 (by omega), am_up_n (by omega)]
    · by_cases z : m = p
      · subst z
        rw [e1, e2, i1 (by omega), am_up_s]; omega
      · rw [e1, e2, i2 (by omega), am_up_n (by omega)]; omega
theorem kc_upI {M : am_M} {p x : Int} (hp : 0 ≤ p ∧ p < M 1 7) : kc (am_up M 4 p x) (M 1 7).toNat = kc M (M 1 7).toNat + (x - M 4 p) := by
  obtain ⟨q, hq⟩ : ∃ q : Nat, p = (q : Int) := ⟨p.toNat, by omega⟩
  subst hq
  exact (kc_up (M := M) (p := q) (x := x) (M 1 7).toNat).2 (by omega)
theorem kc_in {A B : am_M} {n : Int} (h : ∀ i, 0 ≤ i → i < n → A 4 i = B 4 i) : kc A n.toNat = kc B n.toNat := by
  rw [kc_sm, kc_sm]
  exact sm_cg _ (fun i i0 i1 => h i i0 (by omega))
theorem bm_0 {D : am_M} (h : ∀ p, 0 ≤ p → p < D 1 7 → ¬ bk D p) : bm D 0 (D 1 7).toNat = 0 := by
  have e : bm D 0 (D 1 7).toNat = sm (fun p => pi1 (bk D p)) (D 1 7).toNat := sm_cg _ (fun i _ _ => by rw [Int.zero_add])
  rw [e]
  exact (sb_0 (D := D) (D 1 7).toNat).mpr (fun p p0 p1 => h p p0 (by omega))
section BKRG
variable {A B : am_M}
theorem kb_rg (h4 : ∀ i, 0 ≤ i → i < B 1 7 → A 4 i = B 4 i) : ∀ p : Nat, (p : Int) ≤ B 1 7 → kb A p = kb B p
  | 0, _ => rfl
  | p + 1, h => by
    unfold kb
    rw [h4 (p : Int) (by omega) (by omega), kb_rg h4 p (by omega)]
theorem kf_rg (h4 : ∀ i, 0 ≤ i → i < B 1 7 → A 4 i = B 4 i) : ∀ r : Nat, (r : Int) ≤ B 1 7 → kf A (B 1 7) r = kf B (B 1 7) r
  | 0, _ => rfl
  | r + 1, h => by
    unfold kf
    rw [h4 (B 1 7 - ((r : Int) + 1)) (by omega) (by omega), kf_rg h4 r (by omega)]
theorem bk_rg (g : Rg A B) (h4 : ∀ i, 0 ≤ i → i < B 1 7 → A 4 i = B 4 i) {p : Int} (p0 : 0 ≤ p) (p1 : p < B 1 7) (h : bk A p) : bk B p := by
  have e5 : ∀ i, 0 ≤ i → i < B 1 7 → A 5 i = B 5 i := fun i i0 i1 => (g.2.1 i i0 i1).2.2
  have hkb := kb_rg h4 p.toNat (by omega)
  have hkf := kf_rg h4 (B 1 7 - (p + 1)).toNat (by omega)
  have ee : ek A p = ek B p := by
    unfold ek
    rw [hkb, e5 p p0 p1]
    rcases kb_s B p.toNat with ⟨g1, -⟩ | ⟨g1, g2, -⟩
    · rw [if_neg (fun z => z.1 g1), if_neg (fun z => z.1 g1)]
    · rw [e5 (kb B p.toNat) g1 (by omega)]
  have el : lk A p = lk B p := by
    unfold lk
    rw [g.1, hkf, e5 p p0 p1]
    rcases kf_s B (B 1 7) (B 1 7 - (p + 1)).toNat with ⟨g1, -⟩ | ⟨g1, g2, -⟩
    · rw [if_neg (fun z => z.1 g1), if_neg (fun z => z.1 g1)]
    · rw [e5 (kf B (B 1 7) (B 1 7 - (p + 1)).toNat) (by omega) g2]
  obtain ⟨b1, b2⟩ := h
  rw [h4 p p0 p1] at b1
  rw [ee, el, g.2.2 0 (by omega) (by omega)] at b2
  refine ⟨b1, fun z => b2 ⟨z.1, z.2.1, ?_⟩⟩
  obtain ⟨a1, a2, -⟩ := (ek_s (D := B) p0).resolve_left z.1
  obtain ⟨c1, c2, -⟩ := (lk_s (D := B) p1).resolve_left z.2.1
  rw [mi_rg g a1 (by omega) (by omega) c2 p0 p1, span_rg g a1 (by omega) (by omega) c2]
  exact z.2.2
end BKRG
/-- a point that could be dropped isn't broken behind it -/
theorem drop_ok {c c' : Int} {M M' : am_M} (hd : OKd c M) (hs : OKs M) (hd' : OKd c' M') (hs' : OKs M') {p : Int} (hp : 0 ≤ p ∧ p < M 1 7) (hr : rk M p = 0) (e : EQn M' (am_up M 4 p 0)) : ¬ bk M' p := by
  have n := hd.1
  have hdd := hd
  obtain ⟨-, -, -, o1, -⟩ := hdd
  obtain ⟨r1, r2, r3, r4, r5, r6, r7, -⟩ := rk_0 hp hr
  have u7 : am_up M 4 p 0 1 7 = M 1 7 := by rw [am_up_r (by omega)]
  have g : Rg M' M := Rg_of e hs' hs u7 (fun i i0 i1 => by rw [am_up_r (by omega), am_up_r (by omega)]; exact ⟨rfl, rfl⟩) (fun i i0 i1 => by rw [am_up_r (by omega)])
  have h4 : ∀ i, 0 ≤ i → i < M 1 7 → i ≠ p → M' 4 i = M 4 i := fun i i0 i1 z => by
    rw [(e.2.2.2.2.1 i i0 (by rw [u7]; exact i1)).2.2, am_up_n z]
  have e5 : ∀ i, 0 ≤ i → i < M 1 7 → M' 5 i = M 5 i := fun i i0 i1 => (g.2.1 i i0 i1).2.2
  obtain ⟨a1, a2⟩ := ek_n (D := M) hp.1
  obtain ⟨b1, b2⟩ := lk_n (D := M) hp.1 hp.2
  have k1 := (a1.resolve_left (by omega)).2.2.1
  have k2 := (b1.resolve_left (by omega)).2.2.1
  have ee : ek M' p = ek M p := ek_q r2 r3 (by rw [h4 _ r2 (by omega) (by omega)]; exact k1) (by rw [e5 _ r2 (by omega), e5 p hp.1 hp.2]; exact r6) (fun k x y => by rw [h4 k (by omega) (by omega) (by omega)]; exact a2 k (by omega) x y)
  have el : lk M' p = lk M p := lk_q hp.1 r4 (by rw [g.1]; exact r5) (by rw [h4 _ (by omega) r5 (by omega)]; exact k2) (by rw [e5 _ (by omega) r5, e5 p hp.1 hp.2]; exact r7) (fun k x y => by rw [h4 k (by omega) (by omega) (by omega)]; exact b2 k (by omega) x y)
  unfold rk at hr
  rw [if_neg (fun z => z r1), if_neg (fun z => by omega)] at hr
  have hj : jn M (ek M p) (lk M p) (M 6 0) := by
    unfold jn
    refine Classical.byContradiction (fun z => ?_)
    rw [if_neg z] at hr
    omega
  have hm := jn_mi hd o1.1 r2 r3 r4 r5 hj
  intro hb
  refine hb.2 ⟨by rw [ee]; omega, by rw [el]; omega, ?_⟩
  rw [ee, el, g.2.2 0 (by omega) (by omega), mi_rg g r2 (by omega) (by omega) r5 hp.1 hp.2, span_rg g r2 (by omega) (by omega) r5]
  exact hm
