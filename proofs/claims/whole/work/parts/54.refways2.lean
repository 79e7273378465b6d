theorem mp_choose {w : Int} {D M : am_M} {Q : Int → am_M → Prop} {c : Int} (hd : OKd c D) (hs : OKs D) (hm : Mqr (M 70) D) (hw : 0 ≤ w ∧ w ≤ 2)
    (hq : ∀ M', Fq M M' → (∀ k, 0 ≤ k → k < D 1 7 → M' 75 k = pi1 (CH D w (D 6 0) k)) → Q (chn D w (D 6 0)) M') : wp_X6_choose w M Q := by
  have n1 := hd.1
  have ho := hd.2.2.2.1
  have sum : ∀ (M0 : am_M), Fq M M0 → (∀ k, 0 ≤ k → k < D 1 7 → M0 75 k = pi1 (CH D w (D 6 0) k)) → ∀ (r k : Nat), (k : Int) + r = D 1 7 → wl_X6_choose_131 Q (r + 1) (sm (M0 75) k) (k : Int) M0 := by
    intro M0 f g r
    have hm0 := Fq_m hm f
    induction r with
    | zero =>
      intro k hk
      rw [wl_X6_choose_131, hm0.1]
      refine ⟨by unfold am_rg; omega, by unfold am_rg; omega, fun _ => ?_, fun e => absurd e (by omega)⟩
      have e : sm (M0 75) k = chn D w (D 6 0) := by
        unfold chn
        rw [show k = (D 1 7).toNat by omega]
        exact sm_cg _ (fun i i0 i1 => g i i0 (by omega))
      rw [e]
      exact hq M0 f g
    | succ r ih =>
      intro k hk
      rw [wl_X6_choose_131, hm0.1]
      exact ⟨by unfold am_rg; omega, by unfold am_rg; omega, fun e => absurd e (by omega), fun _ => ⟨by omega, ih (k + 1) (by omega)⟩⟩
  have main : ∀ (r : Nat) (p : Int) (M1 : am_M), 0 ≤ p → p ≤ D 1 7 → D 1 7 - p ≤ r → (p < D 1 7 → bs D p) → Fq M M1 → (∀ k, 0 ≤ k → k < p → M1 75 k = pi1 (CH D w (D 6 0) k)) → (∀ k, p ≤ k → k < 60 → M1 75 k = 0) → wl_X6_choose_23 Q (r + 1) w p M1 := by
    intro r
    induction r with
    | zero =>
      intro p M1 p0 p1 hr hb f g z
      rw [wl_X6_choose_23, (Fq_m hm f).1]
      exact ⟨by unfold am_rg; omega, by unfold am_rg; omega, fun _ => ⟨_, sum M1 f (fun k k0 k1 => g k k0 (by omega)) (D 1 7).toNat 0 (by omega)⟩, fun e => absurd (by omega) e⟩
    | succ r ih =>
      intro p M1 p0 p1 hr hb f g z
      have hm1 := Fq_m hm f
      rw [wl_X6_choose_23, hm1.1]
      refine ⟨by unfold am_rg; omega, by unfold am_rg; omega, fun e => ⟨_, sum M1 f (fun k k0 k1 => g k k0 (by omega)) (D 1 7).toNat 0 (by omega)⟩, fun e => ?_⟩
      refine mp_lastWith hd hs hm1 ⟨p0, by omega⟩ (fun l l0 l1 l5 le => ?_)
      have nxt : ∀ M3, Fq M M3 → (∀ k, (k < p ∨ l < k) → M3 75 k = M1 75 k) → (∀ k, p ≤ k → k ≤ l → M3 75 k = pi1 (CH D w (D 6 0) k)) → wl_X6_choose_23 Q (r + 1) w (l + 1) M3 := by
        intro M3 f3 g1 g2
        refine ih (l + 1) M3 (by omega) (by omega) (by omega) (fun y => ?_) f3 (fun k k0 k1 => ?_) (fun k k0 k1 => by rw [g1 k (by omega)]; exact z k (by omega) k1)
        · unfold bs es at *
          rw [show l + 1 - 1 = l by omega]
          omega
        · by_cases y : k < p
          · rw [g1 k (by omega)]; exact g k k0 y
          · exact g2 k (by omega) (by omega)
      have f2 : Fq M (am_up M1 75 p 1) := Fq_w f (by omega)
      have hm2 := Fq_m hm f2
      have bp := hb (by omega)
      have c1 : am_up M1 75 p 1 75 p = 1 := am_up_s
      have c2 : ∀ k, p < k → k ≤ l → am_up M1 75 p 1 75 k = 0 := fun k k0 k1 => by rw [am_up_n (by omega)]; exact z k (by omega) (by omega)
      have c3 : ∀ k, (k < p ∨ l < k) → am_up M1 75 p 1 75 k = M1 75 k := fun k hk => am_up_n (by omega)
      refine ⟨by omega, by unfold am_rg; omega, fun w0 => ⟨by unfold am_rg; omega, fun w1 => ?_, fun w1 => ?_⟩, fun w0 => ?_⟩
      · have ew : w = 2 := by omega
        rw [hm2.2.2.2.2.1]
        refine mp_few hd hs hm2 (by omega) p0 l0 l1 l5.symm le (fun M3 f3 g1 g2 => ?_)
        have chain : ∀ (r' : Nat) (q : Int) (M4 : am_M), l - q ≤ r' → CI D 2 (D 6 0) p l q (M4 75) → Fq M M4 → (∀ k, (k < p ∨ l < k) → M4 75 k = M1 75 k) → M4 77 = M3 77 → wl_X6_choose_88 Q (wl_X6_choose_23 Q (r + 1)) (r' + 1) w l q M4 := by
          intro r'
          induction r' with
          | zero =>
            intro q M4 hr' ci f4 gk e77
            have hq' := ci.1
            refine ⟨by unfold am_rg; omega, by unfold am_rg; omega, fun _ => nxt M4 f4 gk ?_, fun e => absurd (by omega) e⟩
            rw [show q = l by omega] at ci
            rw [ew]
            exact CI_e (by omega) ci
          | succ r' ih' =>
            intro q M4 hr' ci f4 gk e77
            have hq' := ci.1
            refine ⟨by unfold am_rg; omega, by unfold am_rg; omega, fun e => nxt M4 f4 gk ?_, fun e => ?_⟩
            · rw [show q = l by omega] at ci
              rw [ew]
              exact CI_e (by omega) ci
            · have jx := g2 q hq'.1 (by omega)
              rw [← e77] at jx
              have px := jx.1.1
              have xl : M4 77 q ≤ l := by
                by_cases y : M4 77 q ≤ l
                · exact y
                · exact absurd (by rw [← px.2.2.1, l5]; exact (st_eq hs p0 hq'.1 hq'.2 l1 l5.symm).symm) (es_no hs (by omega) le (show l < M4 77 q by omega) px.2.1)
              have p1' := px.1
              refine ⟨by omega, by omega, by omega, ?_⟩
              rw [am_up_r (by omega)]
              exact ih' (M4 77 q) _ (by omega) (CI_s hs n1.1 ci jx xl am_up_s (fun k hk => am_up_n hk)) (Fq_w f4 (by omega)) (fun k hk => by rw [am_up_n (by omega)]; exact gk k hk) (by rw [am_up_r (by omega)]; exact e77)
        have e75 : M3 75 = am_up M1 75 p 1 75 := f3 75 (by omega) (by omega)
        refine ⟨_, chain (l - p).toNat p M3 (by omega) ?_ (Fq_t f2 ⟨fun k k1 k2 => f3 k (by omega) (by omega), fun j hj => by rw [f3 69 (by omega) (by omega)]⟩) (fun k hk => by rw [e75]; exact c3 k hk) rfl⟩
        rw [e75]
        exact CI_0 p0 l0 l1 bp c1 c2
      · have ew : w = 1 := by omega
        refine mp_halves hd hs hm2 p0 l0 l1 l5.symm bp le c1 c2 (fun M3 f3 g1 g2 => nxt M3 (Fq_t f2 ⟨fun k k1 k2 => f3 k (by omega), fun j hj => by rw [f3 69 (by omega)]⟩) (fun k hk => by rw [g1 k hk]; exact c3 k hk) ?_)
        rw [ew]
        exact g2
      · have ew : w = 0 := by omega
        refine mp_far hd hs hm2 p0 l0 l1 l5.symm bp le c1 c2 (fun M3 f3 g1 g2 => nxt M3 (Fq_t f2 ⟨fun k k1 k2 => f3 k (by omega), fun j hj => by rw [f3 69 (by omega)]⟩) (fun k hk => by rw [g1 k hk]; exact c3 k hk) ?_)
        rw [ew]
        exact g2
  have zero : ∀ (r : Nat) (k : Int) (M1 : am_M), 0 ≤ k → k + r = 60 → Fq M M1 → (∀ i, 0 ≤ i → i < k → M1 75 i = 0) → wl_X6_choose_2 Q (r + 1) w k M1 := by
    intro r
    induction r with
    | zero =>
      intro k M1 k0 hk f g
      exact ⟨by unfold am_rg; omega, fun _ => ⟨_, main (D 1 7).toNat 0 M1 (Int.le_refl _) n1.1 (by omega) (fun _ => Or.inl rfl) f (fun i i0 i1 => by omega) (fun i i0 i1 => g i i0 (by omega))⟩, fun e => absurd (by omega) e⟩
    | succ r ih =>
      intro k M1 k0 hk f g
      refine ⟨by unfold am_rg; omega, fun e => absurd e (by omega), fun _ => ⟨by omega, ih (k + 1) _ (by omega) (by omega) (Fq_w f (by omega)) (fun i i0 i1 => ?_)⟩⟩
      by_cases z : i = k
      · rw [z, am_up_s]
      · rw [am_up_n z]; exact g i i0 (by omega)
  exact ⟨_, zero 60 0 M (by omega) (by omega) Fq_r (fun i i0 i1 => by omega)⟩
theorem mp_missedLeast {w : Int} {D M : am_M} {Q : Int → am_M → Prop} {c : Int} (hd : OKd c D) (hs : OKs D) (hm : Mqr (M 70) D) (hw : 0 ≤ w ∧ w ≤ 1) (hq : ∀ M', Fq M M' → Q (cpq D w) M') : wp_X6_missedLeast w M Q := by
  have n1 := hd.1
  have inner : ∀ (k11 : Int → Int → Int → Int → Int → am_M → Prop) (p : Nat) (M1 : am_M), (p : Int) < D 1 7 → rk D (p : Int) = 0 → Fq M M1 → M1 69 9 = ek D (p : Int) → M1 69 10 = lk D (p : Int) → (k11 w (lmS D (p + 1)).1 (lmS D (p + 1)).2.1 (lmS D (p + 1)).2.2 ((p : Int) + 1) M1) → ∀ (r m : Nat), ek D (p : Int) + 1 + (m : Int) + r = lk D (p : Int) → wl_X6_missedLeast_42 Q k11 (r + 1) w (lmS D p).1 (lmS D p).2.1 (lmS D p).2.2 (p : Int) (if sp_mx D (ek D (p : Int)) (lk D (p : Int)) m < 0 then 0 else sp_mx D (ek D (p : Int)) (lk D (p : Int)) m) (ek D (p : Int) + 1 + (m : Int)) M1 := by
    intro k11 p M1 hp hr0 f a9 a10 hk r
    have hm1 := Fq_m hm f
    have h0 := rk_0 ⟨by omega, hp⟩ hr0
    have hg := gm_b hd (p := (p : Int)) ⟨by omega, hp⟩ hr0
    have hl := lm_b hd p (by omega)
    have el : lmS D (p + 1) = if rk D (p : Int) = 0 ∧ ((lmS D p).1 < 0 ∨ gm D (p : Int) * (lmS D p).2.2 < (lmS D p).2.1 * gs D (p : Int)) then ((p : Int), gm D (p : Int), gs D (p : Int)) else lmS D p := rfl
    rw [el] at hk
    have pe : 0 ≤ ek D (p : Int) ∧ ek D (p : Int) < D 1 7 := ⟨by omega, by omega⟩
    have pl' : 0 ≤ lk D (p : Int) ∧ lk D (p : Int) < D 1 7 := ⟨by omega, by omega⟩
    induction r with
    | zero =>
      intro m hr
      have eg : (if sp_mx D (ek D (p : Int)) (lk D (p : Int)) m < 0 then 0 else sp_mx D (ek D (p : Int)) (lk D (p : Int)) m) = gm D (p : Int) := by
        unfold gm
        rw [show m = (lk D (p : Int) - ek D (p : Int) - 1).toNat by omega]
      rw [eg, wl_X6_missedLeast_42, a9, a10]
      refine ⟨by unfold am_rg; omega, by unfold am_rg; omega, fun _ => mp_below hd hm1 pe pl' ?_, fun e => absurd (by omega) e⟩
      have egs : sp_span D (ek D (p : Int)) (lk D (p : Int)) = gs D (p : Int) := rfl
      rw [egs]
      have b1 := sp_pb (x := gm D (p : Int)) (y := (lmS D p).2.2) (a := 39960000) (b := 9999) (by omega) (by omega)
      have b2 := sp_pb (x := (lmS D p).2.1) (y := gs D (p : Int)) (a := 39960000) (b := 9999) (by omega) (by omega)
      have hl1 : (lmS D p).1 = -1000000 ∨ (0 ≤ (lmS D p).1 ∧ (lmS D p).1 < (p : Int)) := by
        rcases hl.1 with z | z
        · exact Or.inl z
        · exact Or.inr ⟨z.1, z.2.1⟩
      refine ⟨by unfold am_rg; omega, by unfold am_rg; omega, fun e => ⟨by unfold am_rg; omega, ?_⟩, fun e => ⟨by unfold am_rg; omega, Or.inl ⟨by unfold am_rl; omega, by unfold am_rl; omega⟩, am_lci_b, fun e2 => ?_, fun e2 => ⟨by unfold am_rg; omega, ?_⟩⟩⟩
      · rw [if_pos ⟨hr0, Or.inl e⟩] at hk; exact hk
      · rw [am_lci_le] at e2
        rw [if_neg (by omega)] at hk
        exact hk
      · rw [am_lci_le] at e2
        rw [if_pos ⟨hr0, Or.inr (by omega)⟩] at hk
        exact hk
    | succ r ih =>
      intro m hr
      have pk : 0 ≤ ek D (p : Int) + 1 + (m : Int) ∧ ek D (p : Int) + 1 + (m : Int) < D 1 7 := ⟨by omega, by omega⟩
      have hi := mi_b hd (a := ek D (p : Int)) (b := lk D (p : Int)) (k := ek D (p : Int) + 1 + (m : Int)) pe.1 (by omega) pl'.2 pk.1 pk.2
      have hx := mx_b hd (a := ek D (p : Int)) (b := lk D (p : Int)) pe.1 (by omega) pl'.2 m (by omega)
      have h := ih (m + 1) (by omega)
      rw [mx_s, show ek D (p : Int) + 1 + ((m + 1 : Nat) : Int) = ek D (p : Int) + 1 + (m : Int) + 1 by omega] at h
      rw [wl_X6_missedLeast_42, a9, a10]
      refine ⟨by unfold am_rg; omega, by unfold am_rg; omega, fun e => absurd e (by omega), fun _ => ?_⟩
      refine mp_time hd hm1 pk (mp_value hd hm1 pk (mp_off hd hm1 pe.1 (by omega) pl'.2 pk ⟨by unfold am_rg; omega, by unfold am_rg; split <;> omega, fun e => ?_, fun e => ?_⟩))
      · by_cases z : sp_mx D (ek D (p : Int)) (lk D (p : Int)) m < sp_mi D (ek D (p : Int)) (lk D (p : Int)) (ek D (p : Int) + 1 + (m : Int))
        · rw [if_pos z, if_neg (by omega)] at h
          have e0 : (if sp_mx D (ek D (p : Int)) (lk D (p : Int)) m < 0 then 0 else sp_mx D (ek D (p : Int)) (lk D (p : Int)) m) = sp_mi D (ek D (p : Int)) (lk D (p : Int)) (ek D (p : Int) + 1 + (m : Int)) := by
            split at e <;> (first | rw [if_pos (by omega)] | rw [if_neg (by omega)]) <;> omega
          rw [e0]; exact h
        · rw [if_neg z] at h; exact h
      · have z : sp_mx D (ek D (p : Int)) (lk D (p : Int)) m < sp_mi D (ek D (p : Int)) (lk D (p : Int)) (ek D (p : Int) + 1 + (m : Int)) := by split at e <;> omega
        rw [if_pos z, if_neg (by omega)] at h
        exact h
  have outer : ∀ (r p : Nat) (M1 : am_M), (p : Int) + r = D 1 7 → Fq M M1 → wl_X6_missedLeast_11 Q (r + 1) w (lmS D p).1 (lmS D p).2.1 (lmS D p).2.2 (p : Int) M1 := by
    intro r
    induction r with
    | zero =>
      intro p M1 hp f
      have hm1 := Fq_m hm f
      have hl := lm_b hd p (by omega)
      have H := hq M1 f
      have hl1 : (lmS D p).1 = -1000000 ∨ (0 ≤ (lmS D p).1 ∧ (lmS D p).1 < (p : Int)) := by
        rcases hl.1 with z | z
        · exact Or.inl z
        · exact Or.inr ⟨z.1, z.2.1⟩
      have ec : cpq D w = if (lmS D p).1 = -1000000 ∨ w = 0 then (lmS D p).1 else Int.tdiv (gm D (lmS D p).1 + gs D (lmS D p).1 - 1) (gs D (lmS D p).1) := by
        unfold cpq
        rw [show (D 1 7).toNat = p by omega]
      rw [ec] at H
      rw [wl_X6_missedLeast_11, hm1.1]
      refine ⟨by unfold am_rg; omega, by unfold am_rg; omega, fun _ => ⟨by unfold am_rg; omega, fun e => ?_, fun e => ⟨by unfold am_rg; omega, fun e2 => ⟨⟨by unfold am_rl; omega, by unfold am_rl; omega, by omega⟩, ?_⟩, fun e2 => ?_⟩⟩, fun e => absurd (by omega) e⟩
      · rw [if_pos (Or.inl (by omega))] at H; exact H
      · rw [if_neg (by omega)] at H
        rcases hl.1 with z | z
        · omega
        · rw [z.2.2.2.1, z.2.2.2.2]; exact H
      · rw [if_pos (Or.inr (by omega))] at H; exact H
    | succ r ih =>
      intro p M1 hp f
      have hm1 := Fq_m hm f
      have rb := rk_b D (p : Int)
      rw [wl_X6_missedLeast_11, hm1.1]
      refine ⟨by unfold am_rg; omega, by unfold am_rg; omega, fun e => absurd e (by omega), fun _ => ?_⟩
      refine mp_against hd hs hm1 ⟨by omega, by omega⟩ (fun M2 f2 a => ?_)
      have f2' := Fq_t f f2
      have h := ih (p + 1) M2 (by omega) f2'
      refine ⟨by unfold am_rg; omega, fun e => ?_, fun e => ?_⟩
      · have el : lmS D (p + 1) = if rk D (p : Int) = 0 ∧ ((lmS D p).1 < 0 ∨ gm D (p : Int) * (lmS D p).2.2 < (lmS D p).2.1 * gs D (p : Int)) then ((p : Int), gm D (p : Int), gs D (p : Int)) else lmS D p := rfl
        rw [el, if_neg (fun z => e z.1)] at h
        exact h
      · have e0 : rk D (p : Int) = 0 := by omega
        obtain ⟨a9, a10⟩ := a e0
        have h0 := rk_0 (p := (p : Int)) ⟨by omega, by omega⟩ e0
        have hi := inner _ p M2 (by omega) e0 f2' a9 a10 h (lk D (p : Int) - (ek D (p : Int) + 1)).toNat 0 (by omega)
        have e1 : (if sp_mx D (ek D (p : Int)) (lk D (p : Int)) 0 < 0 then 0 else sp_mx D (ek D (p : Int)) (lk D (p : Int)) 0) = 0 := if_pos (by unfold sp_mx; omega)
        rw [e1, show ek D (p : Int) + 1 + ((0 : Nat) : Int) = ek D (p : Int) + 1 by omega] at hi
        rw [a9]
        exact ⟨_, hi⟩
  exact ⟨_, outer (D 1 7).toNat 0 M (by omega) Fq_r⟩
def aq (D : am_M) (w : Int) (p : Nat) : Int := if pvv D w p ≠ -1 ∧ D 5 (pvv D w p) = D 5 (p : Int) then pvv D w p else -1
def bq (D : am_M) (w : Int) (p : Nat) : Int := if pvv D w p ≠ -1 ∧ D 5 (pvv D w p) = D 5 ((p : Int) - 1) then pvv D w p else -1
theorem mp_area {w : Int} {D M : am_M} {Q : Int → am_M → Prop} {c : Int} (hd : OKd c D) (hs : OKs D) (hm : Mqr (M 70) D) (hw : w = 0 ∨ w = 1) (hq : Q (arS D w (D 1 7).toNat) (am_up M 69 5 0)) : wp_X6_area w M Q := by
  have n1 := hd.1
  have h6 := hd.2.2.2.2.2.1
  obtain ⟨M0, hM0⟩ : ∃ M0, M0 = am_up M 69 5 0 := ⟨_, rfl⟩
  have hm0 : Mqr (M0 70) D := by rw [hM0, am_up_r (by omega)]; exact hm
  unfold wp_X6_area
  rw [← hM0] at hq ⊢
  have loop : ∀ (r p : Nat), (p : Int) + r = D 1 7 → wl_X6_area_13 Q (r + 1) w (arS D w p) (bq D w p) (p : Int) M0 := by
    intro r
    induction r with
    | zero =>
      intro p hp
      rw [wl_X6_area_13, hm0.1]
      refine ⟨by unfold am_rg; omega, by unfold am_rg; omega, fun _ => ?_, fun e => absurd (by omega) e⟩
      rw [show p = (D 1 7).toNat by omega]
      exact hq
    | succ r ih =>
      intro p hp
      have pp : 0 ≤ (p : Int) ∧ (p : Int) < D 1 7 := ⟨by omega, by omega⟩
      have h := ih (p + 1) (by omega)
      have es : arS D w (p + 1) = if w ≠ 0 ∨ D 4 (p : Int) = 1 then arS D w p + abt D (pvv D w p) (p : Int) else arS D w p := rfl
      have hkb := kb_s D p
      have ekb : kb D (p + 1) = if D 4 (p : Int) = 1 then (p : Int) else kb D p := rfl
      have hpv : pvv D w p = -1 ∨ (0 ≤ pvv D w p ∧ pvv D w p < (p : Int)) := by unfold pvv; split <;> omega
      have ebq : bq D w p = if pvv D w p ≠ -1 ∧ D 5 (pvv D w p) = D 5 ((p : Int) - 1) then pvv D w p else -1 := rfl
      have eaq : aq D w p = if pvv D w p ≠ -1 ∧ D 5 (pvv D w p) = D 5 (p : Int) then pvv D w p else -1 := rfl
      have ebq1 : bq D w (p + 1) = if pvv D w (p + 1) ≠ -1 ∧ D 5 (pvv D w (p + 1)) = D 5 (p : Int) then pvv D w (p + 1) else -1 := by
        unfold bq
        rw [show ((p + 1 : Nat) : Int) - 1 = (p : Int) by omega]
      have vp := OKd_v hd pp.1 pp.2
      have tp := OKd_t hd pp.1 pp.2
      have take : w ≠ 0 ∨ D 4 (p : Int) = 1 → wj_X6_area_54 Q (wl_X6_area_13 Q (r + 1)) w (arS D w p) (aq D w p) (p : Int) M0 := by
        intro z
        rw [es, if_pos z] at h
        have ep : pvv D w (p + 1) = (p : Int) := by
          unfold pvv
          by_cases y : w = 0
          · rw [if_pos y, ekb, if_pos (by omega)]
          · rw [if_neg y]; omega
        have eb1 : bq D w (p + 1) = (p : Int) := by rw [ebq1, ep, if_pos ⟨by omega, rfl⟩]
        rw [eb1] at h
        have last : ∀ s0, (0 ≤ aq D w p → am_rg s0 ∧ s0 * (D 2 (p : Int) - D 2 (aq D w p)) = abt D (pvv D w p) (p : Int)) → (aq D w p < 0 → abt D (pvv D w p) (p : Int) = 0) → wj_X6_area_98 Q (wl_X6_area_13 Q (r + 1)) w (arS D w p) (aq D w p) (p : Int) s0 M0 := by
          intro s0 x1 x2
          have ra : aq D w p = -1 ∨ (0 ≤ aq D w p ∧ aq D w p < (p : Int)) := by rw [eaq]; split <;> omega
          refine ⟨by unfold am_rg; omega, fun e => ⟨(x1 e).1, mp_time hd hm0 pp (mp_time hd hm0 ⟨by omega, by omega⟩ ⟨?_, ?_⟩)⟩, fun e => ?_⟩
          · have := OKd_t hd (i := aq D w p) (by omega) (by omega)
            unfold am_rg; omega
          · rw [(x1 e).2]; exact h
          · rw [x2 (by omega)] at h; exact h
        by_cases y : pvv D w p ≠ -1 ∧ D 5 (pvv D w p) = D 5 (p : Int)
        · rw [if_pos y] at eaq
          have pv : 0 ≤ pvv D w p ∧ pvv D w p < D 1 7 := by omega
          have v1 := OKd_v hd pv.1 pv.2
          have eab : abt D (pvv D w p) (p : Int) = (D 3 (pvv D w p) + (if D 6 2 = 1 then D 3 (pvv D w p) else D 3 (p : Int))) * (D 2 (p : Int) - D 2 (pvv D w p)) := by unfold abt; rw [if_pos y]
          unfold wj_X6_area_54
          rw [hm0.2.2.2.2.2.2.1]
          refine ⟨by unfold am_rg; omega, fun _ => ⟨by unfold am_rg; omega, fun e => ?_, fun e => ?_⟩, fun e => absurd (by omega) e⟩
          · refine mp_value hd hm0 (by rw [eaq]; exact pv) (mp_value hd hm0 pp (last _ (fun _ => ⟨?_, ?_⟩) (fun e => by omega)))
            · rw [eaq]; unfold am_rg; omega
            · rw [eab, if_neg e, eaq]
          · refine mp_value hd hm0 (by rw [eaq]; exact pv) (last _ (fun _ => ⟨?_, ?_⟩) (fun e => by omega))
            · rw [eaq]; unfold am_rg; omega
            · rw [eab, if_pos (by omega), eaq, show 2 * D 3 (pvv D w p) = D 3 (pvv D w p) + D 3 (pvv D w p) by omega]
        · rw [if_neg y] at eaq
          refine ⟨by unfold am_rg; omega, fun e => absurd e (by omega), fun _ => last 0 (fun e => by omega) (fun _ => ?_)⟩
          unfold abt
          rw [if_neg y]
      have J : wj_X6_area_39 Q (wl_X6_area_13 Q (r + 1)) w (arS D w p) (p : Int) (aq D w p) M0 := by
        refine ⟨by unfold am_rg; omega, fun e => take (Or.inl e), fun e => ?_⟩
        have ew : w = 0 := by omega
        refine mp_isKept hd hm0 pp (fun k => ⟨by unfold am_rg; omega, fun e => absurd e (by omega), fun _ => take (Or.inr k)⟩) (fun k => ⟨by unfold am_rg; omega, fun _ => ?_, fun e => absurd rfl e⟩)
        have ep : pvv D w (p + 1) = pvv D w p := by unfold pvv; rw [if_pos ew, if_pos ew, ekb, if_neg k]
        have eb1 : bq D w (p + 1) = aq D w p := by rw [ebq1, ep, eaq]
        rw [es, if_neg (by omega), eb1] at h
        exact h
      rw [wl_X6_area_13, hm0.1]
      refine ⟨by unfold am_rg; omega, by unfold am_rg; omega, fun e => absurd e (by omega), fun _ => ?_⟩
      refine mp_isFirst hd hs hm0 pp (fun b => ⟨by unfold am_rg; omega, fun e => absurd e (by omega), fun _ => ?_⟩) (fun b => ⟨by unfold am_rg; omega, fun _ => ?_, fun e => absurd rfl e⟩)
      · have ea : aq D w p = -1 := by
          rw [eaq, if_neg]
          intro y
          exact bs_no hs (by omega) b (show pvv D w p < (p : Int) by omega) pp.2 y.2
        rw [ea] at J
        exact J
      · have ea : bq D w p = aq D w p := by
          unfold bs at b
          rw [ebq, eaq]
          have : D 5 ((p : Int) - 1) = D 5 (p : Int) := by
            by_cases y : D 5 ((p : Int) - 1) = D 5 (p : Int)
            · exact y
            · exact absurd (Or.inr y) b
          rw [this]
        rw [ea]
        exact J
  have h := loop (D 1 7).toNat 0 (by omega)
  have e0 : bq D w 0 = -1 := by
    unfold bq
    rw [if_neg]
    intro y
    refine y.1 ?_
    unfold pvv kb
    split <;> omega
  rw [e0] at h
  exact ⟨_, h⟩
