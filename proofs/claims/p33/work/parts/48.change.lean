/-! the component's changes -/
def EQn (A B : am_M) : Prop := A 1 7 = B 1 7 ∧ A 1 8 = B 1 8 ∧ A 1 9 = B 1 9 ∧ A 1 10 = B 1 10 ∧ (∀ i, 0 ≤ i → i < B 1 7 → A 2 i = B 2 i ∧ A 3 i = B 3 i ∧ A 4 i = B 4 i) ∧ (∀ i, 0 ≤ i → i < 3 → A 6 i = B 6 i) ∧ (∀ k, 0 ≤ k → k < B 1 8 → A 7 k = B 7 k ∧ A 8 k = B 8 k)
theorem EQn_fr {D M : am_M} (h : Fr8 D M) : EQn M D := by
  unfold EQn
  rw [fr_1 h, fr_2 h, fr_3 h, fr_4 h, fr_6 h, fr_7 h, fr_8 h]
  exact ⟨rfl, rfl, rfl, rfl, fun _ _ _ => ⟨rfl, rfl, rfl⟩, fun _ _ _ => rfl, fun _ _ _ => ⟨rfl, rfl⟩⟩
theorem EQn_d {A B : am_M} (h : EQD A B) (b1 : B 1 7 ≤ 60) (b2 : B 1 8 ≤ 8) : EQn A B := by
  obtain ⟨n1, n2, n3, n4, r, s, t⟩ := h
  exact ⟨n1, n2, n3, n4, fun i i0 i1 => ⟨(r i i0 (by omega)).1, (r i i0 (by omega)).2.1, (r i i0 (by omega)).2.2.1⟩, s, fun k k0 k1 => t k k0 (by omega)⟩
theorem Mqr_n {q : Int → Int} {A B : am_M} (h : Mqr q B) (e : EQn A B) : Mqr q A := by
  obtain ⟨n1, n2, n3, n4, r, s, t⟩ := e
  obtain ⟨h1, h2, h3, h4, h5, h6, h7, h8, h9⟩ := h
  refine ⟨h1.trans n1.symm, h2.trans n2.symm, h3.trans n3.symm, h4.trans n4.symm, h5.trans (s 0 (by omega) (by omega)).symm, h6.trans (s 1 (by omega) (by omega)).symm, h7.trans (s 2 (by omega) (by omega)).symm, fun i i0 i1 => ?_, fun k k0 k1 => ?_⟩
  · have a := h8 i i0 (by omega)
    obtain ⟨b1, b2, b3⟩ := r i i0 (by omega)
    rw [b1, b2, b3]
    exact a
  · have a := h9 k k0 (by omega)
    rw [(t k k0 (by omega)).1, (t k k0 (by omega)).2]
    exact a
theorem OKd_n {c : Int} {A B : am_M} (h : OKd c B) (e : EQn A B) : OKd c A := by
  obtain ⟨n1, n2, n3, n4, r, s, t⟩ := e
  obtain ⟨h1, h2, h3, h4, h5, h6, h7, h8, h9, h10, h11⟩ := h
  unfold OKd
  rw [n1, n2, n3, n4, s 0 (by omega) (by omega), s 1 (by omega) (by omega), s 2 (by omega) (by omega)]
  refine ⟨h1, fun i i0 i1 => ?_, fun i j i0 i1 i2 => ?_, h4, h5, h6, h7, fun k k0 k1 => ?_, h9, h10, h11⟩
  · have a := h2 i i0 i1
    obtain ⟨b1, b2, b3⟩ := r i i0 i1
    rw [b1, b2, b3]
    exact a
  · have a := h3 i j i0 i1 i2
    rw [(r i i0 (by omega)).1, (r j (by omega) (by omega)).1]
    exact a
  · have a := h8 k k0 k1
    rw [(t k k0 k1).1, (t k k0 k1).2]
    exact a
theorem OKd_c {c c' : Int} {M : am_M} (h : OKd c M) (h1 : c ≤ c') (h2 : c' ≤ 1000) : OKd c' M := by
  obtain ⟨a1, a2, a3, a4, a5, a6, a7, a8, a9, a10, a11⟩ := h
  exact ⟨a1, a2, a3, a4, a5, a6, a7, a8, by omega, by omega, by omega⟩
theorem HPc_t {A B A' B' : am_M} (a : ∀ k, ((1 ≤ k ∧ k ≤ 8) ∨ (14 ≤ k ∧ k ≤ 63)) → A' k = A k) (b : ∀ k, 14 ≤ k → k ≤ 63 → B' k = B k) (h : HPc A B) : HPc A' B' := by
  have rA : ∀ s, rwo A' s = rwo A s := fun s => by unfold rwo; rw [a 14 (by omega)]
  have rB : ∀ s, rwo B' s = rwo B s := fun s => by unfold rwo; rw [b 14 (by omega) (by omega)]
  have dA : ∀ s k, 1 ≤ k → k ≤ 8 → dia A' (rwo A s) k = dia A (rwo A s) k := fun s k k1 k2 => by
    unfold dia
    exact a _ (by unfold rwo; omega)
  have dB : ∀ s k, 1 ≤ k → k ≤ 8 → dia B' (rwo B s) k = dia B (rwo B s) k := fun s k k1 k2 => by
    unfold dia
    exact b _ (by unfold rwo; omega) (by unfold rwo; omega)
  obtain ⟨h1, h2, h3, h4⟩ := h
  unfold HPc
  rw [b 14 (by omega) (by omega), a 14 (by omega)]
  refine ⟨h1, h2, ?_, fun s s0 s1 k k1 k2 => ?_⟩
  · rw [rB]
    unfold EQD at h3 ⊢
    rw [dB _ 1 (by omega) (by omega), dB _ 2 (by omega) (by omega), dB _ 3 (by omega) (by omega), dB _ 4 (by omega) (by omega), dB _ 5 (by omega) (by omega), dB _ 6 (by omega) (by omega), dB _ 7 (by omega) (by omega), dB _ 8 (by omega) (by omega), a 1 (by omega), a 2 (by omega), a 3 (by omega), a 4 (by omega), a 5 (by omega), a 6 (by omega), a 7 (by omega), a 8 (by omega)]
    exact h3
  · rw [rB, rA, dB _ k k1 k2, dA _ k k1 k2]
    exact h4 s s0 s1 k k1 k2
/-- the same points -/
def Sm (M M' : am_M) : Prop := M' 1 7 = M 1 7 ∧ M' 2 = M 2 ∧ M' 3 = M 3 ∧ M' 5 = M 5 ∧ M' 6 = M 6
theorem Sm_r {M : am_M} : Sm M M := ⟨rfl, rfl, rfl, rfl, rfl⟩
theorem Sm_fr {M M' : am_M} (h : Fr8 M M') : Sm M M' := ⟨by rw [fr_1 h], fr_2 h, fr_3 h, fr_5 h, fr_6 h⟩
theorem Sm_t {A B C : am_M} (h : Sm A B) (g : Sm B C) : Sm A C := ⟨g.1.trans h.1, g.2.1.trans h.2.1, g.2.2.1.trans h.2.2.1, g.2.2.2.1.trans h.2.2.2.1, g.2.2.2.2.trans h.2.2.2.2⟩
theorem span_sm {M M' : am_M} (h : Sm M M') (a b : Int) : sp_span M' a b = sp_span M a b := by unfold sp_span; rw [h.2.2.2.2, h.2.1]
theorem rise_sm {M M' : am_M} (h : Sm M M') (a b : Int) : sp_rise M' a b = sp_rise M a b := by unfold sp_rise; rw [h.2.2.2.2, h.2.2.1]
theorem ms_sm {M M' : am_M} (h : Sm M M') (a b k : Int) : sp_ms M' a b k = sp_ms M a b k := by unfold sp_ms; rw [h.2.1, h.2.2.1, span_sm h, rise_sm h]
theorem mi_sm {M M' : am_M} (h : Sm M M') (a b k : Int) : sp_mi M' a b k = sp_mi M a b k := by unfold sp_mi; rw [ms_sm h]
theorem mx_sm {M M' : am_M} (h : Sm M M') (a b : Int) : ∀ m, sp_mx M' a b m = sp_mx M a b m
  | 0 => rfl
  | m + 1 => by rw [mx_s, mx_s, mx_sm h a b m, mi_sm h]
theorem nd_sm {M M' : am_M} (h : Sm M M') (a b : Int) : nd M' a b = nd M a b := by unfold nd ndn; rw [mx_sm h, span_sm h]
theorem sn_sm {M M' : am_M} (h : Sm M M') : ∀ i, sn M' i = sn M i
  | 0 => rfl
  | i + 1 => by unfold sn; rw [sn_sm h i, h.2.1, h.2.2.2.2]
theorem OKs_sm {M M' : am_M} (hs : OKs M) (h : Sm M M') : OKs M' := fun i hi => by
  rw [h.1] at hi
  rw [h.2.2.2.1, sn_sm h i]
  exact hs i hi
theorem NV_sm {D D' M : am_M} (hv : NV D M) (h : Sm D D') : NV D' M := by
  rcases hv with z | ⟨z, y⟩
  · exact Or.inl z
  · refine Or.inr ⟨z, fun i j i0 i1 i2 i3 => ?_⟩
    rw [h.1] at i2
    rw [h.2.2.2.1] at i3
    rw [nd_sm h]
    exact y i j i0 i1 i2 i3
theorem NV_m {D M M' : am_M} (hv : NV D M) (e10 : M' 10 = M 10) (e13 : M' 13 = M 13) : NV D M' := by
  unfold NV ND at hv ⊢
  rw [e10, e13]
  exact hv
/-- the component is in order -/
def Cp (c : Int) (M : am_M) : Prop := OKd c M ∧ OKs M ∧ NV M M ∧ (0 ≤ M 14 1 ∧ M 14 1 < 6) ∧ (0 ≤ M 14 2 ∧ M 14 2 ≤ 6) ∧ OKt M
/-- a change: into the diary D' -/
def Mut (c : Int) (M M' D' : am_M) : Prop := (∀ k, (k = 0 ∨ 63 < k) → k ≠ 68 → M' k = M k) ∧ HPc M M' ∧ EQn M' D' ∧ OKd (c + 1) M' ∧ OKs M' ∧ NV M' M'
theorem EQn_5 {A B D : am_M} (f : ∀ k, k ≠ 5 → k ≠ 10 → B k = A k) (e : EQn A D) : EQn B D := by
  unfold EQn at e ⊢
  rw [f 1 (by omega) (by omega), f 2 (by omega) (by omega), f 3 (by omega) (by omega), f 4 (by omega) (by omega), f 6 (by omega) (by omega), f 7 (by omega) (by omega), f 8 (by omega) (by omega)]
  exact e
theorem Mut_pc {c : Int} {M Mb D' : am_M} {Q : am_M → Prop} (g : ∀ k, (k = 0 ∨ 63 < k) → k ≠ 68 → Mb k = M k) (hp : HPc M Mb) (e : EQn Mb D') (d : OKd (c + 1) D') (hq : ∀ M', Mut c M M' D' → Q M') : wp_X5_pointsChanged Mb Q :=
  dp_pointsChanged (OKd_n d e) (fun M' f s d' z => hq M' ⟨fun k k1 k2 => (f k (by omega) (by omega)).trans (g k k1 k2), HPc_t (fun _ _ => rfl) (fun k k1 k2 => f k (by omega) (by omega)) hp, EQn_5 f e, d', s, Or.inl z⟩)
/-! each -/
theorem OKd_up3 {c p v : Int} {D : am_M} (h : OKd c D) (hv : -999 ≤ v ∧ v ≤ 999) : OKd c (am_up D 3 p v) := by
  obtain ⟨h1, h2, h3, h⟩ := h
  unfold OKd
  simp (disch := omega) only [am_up_r]
  refine ⟨h1, fun i i0 i1 => ?_, h3, h⟩
  have a := h2 i i0 i1
  by_cases z : i = p
  · rw [z, am_up_s]
    rw [z] at a
    exact ⟨a.1, hv, a.2.2⟩
  · rw [am_up_n z]
    exact a
theorem OKd_up4 {c p v : Int} {D : am_M} (h : OKd c D) (hv : v = 0 ∨ v = 1) : OKd c (am_up D 4 p v) := by
  obtain ⟨h1, h2, h3, h⟩ := h
  unfold OKd
  simp (disch := omega) only [am_up_r]
  refine ⟨h1, fun i i0 i1 => ?_, h3, h⟩
  have a := h2 i i0 i1
  by_cases z : i = p
  · rw [z, am_up_s]
    rw [z] at a
    exact ⟨a.1, a.2.1, hv⟩
  · rw [am_up_n z]
    exact a
theorem up_fr {A B : am_M} {k : Nat} {j x : Int} (h : Fr8 A B) : Fr8 (am_up A k j x) (am_up B k j x) := fun k' h1 h2 => by
  funext j'
  unfold am_up
  rw [h k' h1 h2]
theorem Fh_f {M M' : am_M} (h : Fh M M') : Fr8 M M' := fun k h1 h2 => h k (by omega)
theorem dp_correct {p v : Int} {M : am_M} {Q : Int → am_M → Prop} {X : am_X} {c : Int} (hC : Cp c M) (hc : c + 1 ≤ 1000) (hp : am_rg p) (hv : am_rg v)
    (x2 : ¬ (0 ≤ p ∧ p < M 1 7) → X 2 M) (x0 : 0 ≤ p ∧ p < M 1 7 → ¬ (-999 ≤ v ∧ v ≤ 999) → X 0 M) (hq : 0 ≤ p ∧ p < M 1 7 → -999 ≤ v ∧ v ≤ 999 → ∀ M', Mut c M M' (am_up M 3 p v) → Q (M 3 p) M') : wp_X5_correct p v M Q X := by
  obtain ⟨hd, hs, hN, r1, r2, ht⟩ := hC
  have hd' := hd
  obtain ⟨⟨n0, n1⟩, -⟩ := hd'
  refine dp_refuseNoPoint hd Fr8_r hp (fun h => sp_isValue hv (fun h2 => ⟨by unfold am_rg; omega, fun _ => ?_, fun e => absurd e (by omega)⟩) (fun h2 => ⟨by unfold am_rg; omega, fun e => absurd rfl e, fun _ => x0 h h2⟩)) x2
  refine dp_remember r1 r2 (fun M1 f1 e15 hp1 => ⟨by omega, by omega, ?_⟩)
  have F := Fh_f f1
  refine Mut_pc (c := c) (M := M) (D' := am_up M 3 p v) (fun k k1 k2 => ?_) (HPc_t (fun _ _ => rfl) (fun k k1 k2 => am_up_r (by omega)) hp1) (EQn_fr (up_fr F)) (OKd_up3 (OKd_c hd (by omega) hc) h2) (fun M' m => ?_)
  · rw [am_up_r (by omega)]; exact f1 k (by omega)
  · rw [fr_3 F]; exact hq h h2 M' m
theorem kc_4 {A B : am_M} (h : A 4 = B 4) : ∀ i, kc A i = kc B i
  | 0 => rfl
  | i + 1 => by unfold kc; rw [h, kc_4 h i]
theorem up_sm {A : am_M} {j x : Int} : Sm A (am_up A 4 j x) := ⟨by rw [am_up_r (by omega)], am_up_r (by omega), am_up_r (by omega), am_up_r (by omega), am_up_r (by omega)⟩
/-- a point is kept or dropped -/
theorem dp_putKept {p x : Int} {M M1 : am_M} {Q : Int → am_M → Prop} {c : Int} (hC : Cp c M) (hc : c + 1 ≤ 1000) (hx : x = 0 ∨ x = 1) (a : Ask M M M1) (hp : 0 ≤ p ∧ p < M 1 7)
    (hq : ∀ M', Mut c M M' (am_up M 4 p x) → Q (kc (am_up M 4 p x) (M 1 7).toNat) M') : wp_X0_remember M1 (fun M4 => (0 ≤ (p : Int) ∧ (p : Int) < 60) ∧ (wp_X2_keptPoints (am_up M4 4 p x) (fun x5 M6 => Q x5 M6))) := by
  obtain ⟨hd, hs, hN, r1, r2, ht⟩ := hC
  have hd' := hd
  obtain ⟨⟨n0, n1⟩, -⟩ := hd'
  have e14 : M1 14 = M 14 := a.1 14 (by omega)
  refine dp_remember (by rw [e14]; exact r1) (by rw [e14]; exact r2) (fun M4 f e15 hp1 => ⟨by omega, ?_⟩)
  have F1 : Fr8 M M1 := Fc_f Fr8_r a.1
  have F : Fr8 M M4 := Fr8_t F1 (Fh_f f)
  have dN : OKd (c + 1) (am_up M4 4 p x) := OKd_fr (OKd_up4 (OKd_c hd (by omega) hc) hx) (up_fr F)
  refine dp_keptPoints dN Fr8_r ?_
  have ek : kc (am_up M4 4 p x) (am_up M4 4 p x 1 7).toNat = kc (am_up M 4 p x) (M 1 7).toNat := by
    rw [am_up_r (by omega), fr_1 F]
    exact kc_4 (by funext j; unfold am_up; rw [fr_4 F]) _
  rw [ek]
  have sm : Sm M (am_up M4 4 p x) := Sm_t (Sm_fr F) up_sm
  refine hq _ ⟨fun k k1 k2 => ?_, HPc_t (fun k hk => (a.1 k (by omega)).symm) (fun k k1 k2 => am_up_r (by omega)) hp1, EQn_fr (up_fr F), dN, OKs_sm hs sm, NV_sm (NV_m a.2 ?_ ?_) sm⟩
  · rw [am_up_r (by omega), f k (by omega)]; exact a.1 k (by omega)
  · rw [am_up_r (by omega)]; exact f 10 (by omega)
  · rw [am_up_r (by omega)]; exact f 13 (by omega)
theorem dp_drop {p : Int} {M : am_M} {Q : Int → am_M → Prop} {X : am_X} {c : Int} (hC : Cp c M) (hc : c + 1 ≤ 1000) (hp : am_rg p)
    (x2 : ¬ (0 ≤ p ∧ p < M 1 7) → X 2 M) (x1 : 0 ≤ p ∧ p < M 1 7 → rk M p ≠ 0 → ∀ M', Ask M M M' → X 1 M') (hq : 0 ≤ p ∧ p < M 1 7 → rk M p = 0 → ∀ M', Mut c M M' (am_up M 4 p 0) → Q (kc (am_up M 4 p 0) (M 1 7).toNat) M') : wp_X5_drop p M Q X := by
  have hC' := hC
  obtain ⟨hd, hs, hN, r1, r2, ht⟩ := hC'
  refine dp_refuseNoPoint hd Fr8_r hp (fun h => dp_reasonToKeep hd hs Fr8_r h (fun M1 f1 => ?_)) x2
  have hr := rk_b M p
  have a := Ask_9 hN f1
  exact ⟨by unfold am_rg; omega, fun e => dp_putKept hC hc (Or.inl rfl) a h (hq h e), fun e => x1 h e M1 a⟩
theorem dp_keep {p : Int} {M : am_M} {Q : Int → am_M → Prop} {X : am_X} {c : Int} (hC : Cp c M) (hc : c + 1 ≤ 1000) (hp : am_rg p)
    (x2 : ¬ (0 ≤ p ∧ p < M 1 7) → X 2 M) (x1 : 0 ≤ p ∧ p < M 1 7 → M 4 p = 1 → X 1 M) (hq : 0 ≤ p ∧ p < M 1 7 → M 4 p ≠ 1 → ∀ M', Mut c M M' (am_up M 4 p 1) → Q (kc (am_up M 4 p 1) (M 1 7).toNat) M') : wp_X5_keep p M Q X := by
  have hC' := hC
  obtain ⟨hd, hs, hN, r1, r2, ht⟩ := hC'
  exact dp_refuseNoPoint hd Fr8_r hp (fun h => dp_isKept hd Fr8_r hp (fun z => ⟨by unfold am_rg; omega, fun e => absurd e (by omega), fun _ => x1 h z.2⟩) (fun z => ⟨by unfold am_rg; omega, fun _ => dp_putKept hC hc (Or.inr rfl) (Ask_r hN) h (hq h (fun y => z ⟨h, y⟩)), fun e => absurd rfl e⟩)) x2
def isv (s v : Int) : Prop := (s = 0 ∧ 0 ≤ v ∧ v ≤ 500) ∨ (s = 1 ∧ 1 ≤ v ∧ v ≤ 2000) ∨ (s = 2 ∧ (v = 0 ∨ v = 1))
theorem dp_isSettingValue {s v : Int} {M : am_M} {Q : Int → am_M → Prop} (hs : 0 ≤ s ∧ s < 3) (hv : am_rg v) (q1 : isv s v → Q 1 M) (q0 : ¬ isv s v → Q 0 M) : wp_X5_isSettingValue s v M Q := by
  unfold isv at q1 q0
  unfold am_rg at hv
  unfold wp_X5_isSettingValue am_rg
  repeat' (first | refine And.intro ?_ ?_ | intro _)
  all_goals first | omega | (apply q1; omega) | (apply q0; omega)
theorem OKd_up6 {c s v : Int} {D : am_M} (h : OKd c D) (hv : isv s v) : OKd c (am_up D 6 s v) := by
  obtain ⟨h1, h2, h3, h4, h5, h6, h⟩ := h
  unfold OKd
  unfold isv at hv
  simp (disch := omega) only [am_up_r]
  refine ⟨h1, h2, h3, ?_, ?_, ?_, h⟩
  · by_cases z : s = 0
    · subst z; rw [am_up_s]; omega
    · rw [am_up_n (by omega)]; exact h4
  · by_cases z : s = 1
    · subst z; rw [am_up_s]; omega
    · rw [am_up_n (by omega)]; exact h5
  · by_cases z : s = 2
    · subst z; rw [am_up_s]; omega
    · rw [am_up_n (by omega)]; exact h6
theorem dp_set {s v : Int} {M : am_M} {Q : Int → am_M → Prop} {X : am_X} {c : Int} (hC : Cp c M) (hc : c + 1 ≤ 1000) (hp : am_rg s) (hv : am_rg v)
    (x2 : ¬ (0 ≤ s ∧ s < 3) → X 2 M) (x0 : 0 ≤ s ∧ s < 3 → ¬ isv s v → X 0 M) (hq : 0 ≤ s ∧ s < 3 → isv s v → ∀ M', Mut c M M' (am_up M 6 s v) → Q (M 6 s) M') : wp_X5_set s v M Q X := by
  obtain ⟨hd, hs, hN, r1, r2, ht⟩ := hC
  refine dp_refuseNoSetting hp (fun h => dp_isSettingValue h hv (fun h2 => ⟨by unfold am_rg; omega, fun _ => ?_, fun e => absurd e (by omega)⟩) (fun h2 => ⟨by unfold am_rg; omega, fun e => absurd rfl e, fun _ => x0 h h2⟩)) x2
  refine dp_remember r1 r2 (fun M1 f1 e15 hp1 => ⟨by omega, by omega, ?_⟩)
  have F := Fh_f f1
  refine Mut_pc (c := c) (M := M) (D' := am_up M 6 s v) (fun k k1 k2 => ?_) (HPc_t (fun _ _ => rfl) (fun k k1 k2 => am_up_r (by omega)) hp1) (EQn_fr (up_fr F)) (OKd_up6 (OKd_c hd (by omega) hc) h2) (fun M' m => ?_)
  · rw [am_up_r (by omega)]; exact f1 k (by omega)
  · rw [fr_6 F]; exact hq h h2 M' m
/-- with a point more -/
def insD (D : am_M) (t v : Int) : am_M := fun k j => if k = 2 then insR (D 2) (pl D t) t j else if k = 3 then insR (D 3) (pl D t) v j else if k = 4 then insR (D 4) (pl D t) 1 j else if k = 1 ∧ j = 7 then D 1 7 + 1 else D k j
theorem insD_2 {D : am_M} {t v : Int} : insD D t v 2 = insR (D 2) (pl D t) t := by funext j; unfold insD; rw [if_pos rfl]
theorem insD_3 {D : am_M} {t v : Int} : insD D t v 3 = insR (D 3) (pl D t) v := by funext j; unfold insD; rw [if_neg (by omega), if_pos rfl]
theorem insD_4 {D : am_M} {t v : Int} : insD D t v 4 = insR (D 4) (pl D t) 1 := by funext j; unfold insD; rw [if_neg (by omega), if_neg (by omega), if_pos rfl]
theorem insD_7 {D : am_M} {t v : Int} : insD D t v 1 7 = D 1 7 + 1 := by unfold insD; rw [if_neg (by omega), if_neg (by omega), if_neg (by omega), if_pos ⟨rfl, rfl⟩]
theorem insD_1 {D : am_M} {t v j : Int} (h : j ≠ 7) : insD D t v 1 j = D 1 j := by unfold insD; rw [if_neg (by omega), if_neg (by omega), if_neg (by omega), if_neg (fun z => h z.2)]
theorem insD_k {D : am_M} {t v : Int} {k : Nat} (h : 4 < k) : insD D t v k = D k := by funext j; unfold insD; rw [if_neg (by omega), if_neg (by omega), if_neg (by omega), if_neg (fun z => by omega)]
theorem OKd_ins {c t v : Int} {D : am_M} (hd : OKd c D) (ht : 0 ≤ t ∧ t ≤ 9999) (hv : -999 ≤ v ∧ v ≤ 999) (hn : D 1 7 < 60) (hf : ∀ i, 0 ≤ i → i < D 1 7 → D 2 i ≠ t) : OKd c (insD D t v) := by
  obtain ⟨h1, h2, h3, h⟩ := hd
  have hp := pl_s (D := D) (t := t) h1.1
  unfold OKd
  rw [insD_2, insD_3, insD_4, insD_7, insD_1 (by omega), insD_1 (by omega), insD_1 (by omega), insD_k (by omega), insD_k (by omega), insD_k (by omega)]
  unfold insR
  refine ⟨by omega, fun i i0 i1 => ?_, fun i j i0 i1 i2 => ?_, h⟩
  · by_cases z : i < pl D t
    · simp only [if_pos z]; exact h2 i i0 (by omega)
    · by_cases y : i = pl D t
      · simp only [if_neg z, if_pos y]; exact ⟨ht, hv, Or.inr trivial⟩
      · simp only [if_neg z, if_neg y]; exact h2 (i - 1) (by omega) (by omega)
  · have lo : ∀ k, 0 ≤ k → k < pl D t → D 2 k < t := hp.2.2.1
    have hi : ∀ k, pl D t ≤ k → k < D 1 7 → t < D 2 k := by
      intro k k0 k1
      have a := hp.2.2.2 (by omega)
      have b := hf k (by omega) k1
      by_cases z : k = pl D t
      · rw [z] at b ⊢; omega
      · have := h3 (pl D t) k hp.1 (by omega) k1; omega
    by_cases z : i < pl D t
    · rw [if_pos z]
      by_cases y : j < pl D t
      · rw [if_pos y]; exact h3 i j i0 i1 (by omega)
      · by_cases x : j = pl D t
        · rw [if_neg y, if_pos x]; exact lo i i0 z
        · rw [if_neg y, if_neg x]; exact Int.lt_trans (lo i i0 z) (hi (j - 1) (by omega) (by omega))
    · by_cases y : i = pl D t
      · rw [if_neg z, if_pos y, if_neg (by omega), if_neg (by omega)]; exact hi (j - 1) (by omega) (by omega)
      · rw [if_neg z, if_neg y, if_neg (by omega), if_neg (by omega)]; exact h3 (i - 1) (j - 1) (by omega) (by omega) (by omega)
theorem dp_insertD {t v : Int} {D M : am_M} {Q : Int → am_M → Prop} {c : Int} (hd : OKd c D) (he : EQn M D) (ht : am_rg t) (hn : D 1 7 < 60)
    (hq : ∀ M', EQn M' (insD D t v) → (∀ k, (k = 0 ∨ 4 < k) → M' k = M k) → Q (pl D t) M') : wp_X2_insert t v M Q := by
  have hd' := hd
  obtain ⟨⟨n0, n1⟩, -⟩ := hd'
  have he' := he
  obtain ⟨e1, e2, e3, e4, r, s, nn⟩ := he'
  refine dp_insert (OKd_n hd he) ht (by omega) (fun p M' p0 p1 p2 p3 f e17 rows => ?_)
  have ep : p = pl D t := pl_u p0 (by omega) (fun i i0 i1 => by rw [← (r i i0 (by omega)).1]; exact p2 i i0 i1) (fun z => by rw [← (r p p0 z).1]; exact p3 (by omega))
  rw [ep] at rows ⊢
  have hp := pl_s (D := D) (t := t) n0
  refine hq M' ⟨?_, ?_, ?_, ?_, fun i i0 i1 => ?_, fun i i0 i1 => ?_, fun k k0 k1 => ?_⟩ f.1
  · rw [insD_7]; omega
  · rw [insD_1 (by omega), f.2 8 (by omega)]; exact e2
  · rw [insD_1 (by omega), f.2 9 (by omega)]; exact e3
  · rw [insD_1 (by omega), f.2 10 (by omega)]; exact e4
  · rw [insD_7] at i1
    obtain ⟨a, b, d⟩ := rows i i0 (by omega)
    rw [a, b, d, insD_2, insD_3, insD_4]
    unfold insR
    by_cases z : i < pl D t
    · simp only [if_pos z]; exact r i i0 (by omega)
    · by_cases y : i = pl D t
      · simp only [if_neg z, if_pos y]; refine ⟨?_, ?_, ?_⟩ <;> trivial
      · simp only [if_neg z, if_neg y]; exact r (i - 1) (by omega) (by omega)
  · rw [insD_k (by omega), f.1 6 (by omega)]; exact s i i0 i1
  · rw [insD_1 (by omega)] at k1
    rw [insD_k (by omega), insD_k (by omega), f.1 7 (by omega), f.1 8 (by omega)]; exact nn k k0 k1
theorem dp_add {t v : Int} {M : am_M} {Q : Int → am_M → Prop} {X : am_X} {c : Int} (hC : Cp c M) (hc : c + 1 ≤ 1000) (hp : am_rg t) (hv : am_rg v)
    (x0 : ¬ ((0 ≤ t ∧ t ≤ 9999) ∧ (-999 ≤ v ∧ v ≤ 999)) → X 0 M) (x1 : (0 ≤ t ∧ t ≤ 9999) ∧ (-999 ≤ v ∧ v ≤ 999) → (M 1 7 = 60 ∨ ∃ i, 0 ≤ i ∧ i < M 1 7 ∧ M 2 i = t) → X 1 M)
    (hq : (0 ≤ t ∧ t ≤ 9999) ∧ (-999 ≤ v ∧ v ≤ 999) → M 1 7 < 60 → (∀ i, 0 ≤ i → i < M 1 7 → M 2 i ≠ t) → ∀ M', Mut c M M' (insD M t v) → Q (pl M t) M') : wp_X5_add t v M Q X := by
  obtain ⟨hd, hs, hN, r1, r2, ht⟩ := hC
  have hd' := hd
  obtain ⟨⟨n0, n1⟩, -⟩ := hd'
  refine sp_isTime hp (fun h => ⟨by unfold am_rg; omega, fun e => absurd e (by omega), fun _ => ?_⟩) (fun h => ⟨by unfold am_rg; omega, fun _ => x0 (fun z => h z.1), fun e => absurd rfl e⟩)
  refine sp_isValue hv (fun h2 => ⟨by unfold am_rg; omega, fun _ => ?_, fun e => absurd e (by omega)⟩) (fun h2 => ⟨by unfold am_rg; omega, fun e => absurd rfl e, fun _ => x0 (fun z => h2 z.2)⟩)
  refine ⟨by unfold am_rg; omega, fun e => x1 ⟨h, h2⟩ (Or.inl (by omega)), fun hn => sp_hasTime hd hp (fun p p0 p1 p2 => ⟨by unfold am_rg; omega, fun e => absurd e (by omega), fun _ => x1 ⟨h, h2⟩ (Or.inr ⟨p, p0, p1, p2⟩)⟩) (fun hno => ⟨by unfold am_rg; omega, fun _ => ?_, fun e => absurd rfl e⟩)⟩
  refine dp_remember r1 r2 (fun M1 f1 e15 hp1 => ?_)
  have F := Fh_f f1
  refine dp_insertD hd (EQn_fr F) hp (by omega) (fun M2 e2 f2 => ?_)
  exact Mut_pc (c := c) (M := M) (D' := insD M t v) (fun k k1 k2 => (f2 k (by omega)).trans (f1 k (by omega))) (HPc_t (fun _ _ => rfl) (fun k k1 k2 => f2 k (by omega)) hp1) e2 (OKd_ins (OKd_c hd (by omega) hc) h h2 (by omega) hno) (fun M' m => hq ⟨h, h2⟩ (by omega) hno M' m)
