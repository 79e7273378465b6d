/-! the reference adds a text -/
def FrT (M M' : am_M) : Prop := (∀ k, k ≠ 69 → k ≠ 78 → k ≠ 79 → M' k = M k) ∧ (∀ j, (j < 17 ∨ 20 < j) → j ≠ 5 → M' 69 j = M 69 j)
def FmT (M M' : am_M) : Prop := (∀ k, k ≠ 69 → k ≠ 70 → k ≠ 71 → k ≠ 78 → k ≠ 79 → M' k = M k) ∧ (∀ j, (j < 17 ∨ 20 < j) → j ≠ 2 → j ≠ 4 → j ≠ 5 → M' 69 j = M 69 j)
theorem FrT_e {M M1 : am_M} {e : Int} (f : Frs (am_up M 69 5 0) M1) : FrT M (am_up M1 69 5 e) ∧ am_up M1 69 5 e 69 5 = e :=
  ⟨⟨fun k a b d => by rw [am_up_r a, f.1 k a b d, am_up_r a], fun j hj h5 => by rw [am_up_n h5, f.2 j hj, am_up_n h5]⟩, am_up_s⟩
def okP (D : am_M) (ts : Int → Int) (i : Int) : Prop := (∀ j, 0 ≤ j → j < D 1 7 → D 2 j ≠ ts i) ∧ ∀ j, 0 ≤ j → j < i → ts j ≠ ts i
theorem mp_addAll {t : Int → Int} {L : Int} {D M : am_M} {Q : Int → am_M → Prop} {c : Int} (hd : OKd c D) (hc : c + 1 ≤ 1000) (hm : Mqr (M 70) D) (hT : TX t L M) (h2 : 0 ≤ M 69 2 ∧ M 69 2 ≤ 6) (n : Int) (ts vs : Int → Int) (en : n = cn t L.toNat + 1) (ets : ts = TP t L.toNat) (evs : vs = VP t L.toNat)
    (hr : 8 ≤ st t L.toNat → (1 ≤ n ∧ n ≤ 16) ∧ ∀ k, 0 ≤ k → k < n → (0 ≤ ts k ∧ ts k ≤ 9999) ∧ (-999 ≤ vs k ∧ vs k ≤ 999))
    (x1 : ¬ 8 ≤ st t L.toNat → ∀ M', FrT M M' → M' 69 5 = 1 → Q 0 M') (x2 : 8 ≤ st t L.toNat → ¬ (D 1 7 + n ≤ 60 ∧ frP D ts n) → ∀ M', FrT M M' → M' 69 5 = 2 → Q 0 M')
    (hq : 8 ≤ st t L.toNat → D 1 7 + n ≤ 60 → frP D ts n → ∀ M', FmT M M' → HPm M M' → Mqr (M' 70) (IN D ts vs n.toNat) → M' 69 5 = 0 → M' 69 4 = 0 → Q (D 1 7 + n) M') : wp_X6_addAll M Q := by
  have hLL := hT.2.1
  have n1 := hd.1
  refine mp_reads (TX_0 hT) (fun q M1 f1 re => ?_)
  obtain ⟨r1, r2, r3, r4, r5, r6, r7⟩ := re
  have e4 : M1 69 4 = L := by rw [f1.2 4 (by omega), am_up_n (by omega)]; exact hT.1
  have hm1 : Mqr (M1 70) D := by rw [f1.1 70 (by omega) (by omega) (by omega), am_up_r (by omega)]; exact hm
  have bad : ¬ 8 ≤ st t L.toNat → wj_X6_addAll_23 Q M1 := fun z => x1 z _ (FrT_e f1).1 (FrT_e f1).2
  rw [e4, hm1.1]
  refine ⟨by unfold am_rg; omega, by unfold am_rg; omega, fun e => bad ?_, fun e => ⟨by unfold am_rg; omega, fun e2 => ?_, fun e2 => bad ?_⟩⟩
  · rcases r4 with z | z
    · omega
    · have h1 : st t (q + 1) = -1 := by rw [st_s r3]; exact z
      have := st_w h1 (L.toNat - (q + 1))
      rw [show q + 1 + (L.toNat - (q + 1)) = L.toNat by omega] at this
      omega
  · have eq : q = L.toNat := by omega
    subst eq
    have h18 : M1 69 18 = 1 := by omega
    have h8 := r6.mp h18
    obtain ⟨s17, srow⟩ := r7 h18
    rw [← en] at s17
    obtain ⟨hn, hrow⟩ := hr h8
    have rowT : ∀ k, 0 ≤ k → k < n → M1 78 k = ts k ∧ M1 79 k = vs k := fun k k0 k1 => by
      rw [ets, evs]; exact srow k k0 (by omega)
    rw [s17]
    -- the end of the checks
    have J : ∀ v1 M2, M2 = M1 → ((v1 = 0 ∧ ¬ (D 1 7 + n ≤ 60 ∧ frP D ts n)) ∨ (v1 = 1 ∧ D 1 7 + n ≤ 60 ∧ frP D ts n)) → wj_X6_addAll_128 Q v1 M2 := by
      intro v1 M2 eM inv
      subst eM
      refine ⟨by unfold am_rg; rcases inv with ⟨z, -⟩ | ⟨z, -⟩ <;> omega, fun z => ?_, fun z => ?_⟩
      · rcases inv with ⟨y, -⟩ | ⟨-, cap, fr⟩
        · exact absurd y z
        · have ins := IN_s (vs := vs) (OKd_c hd (by omega : c ≤ c + 1) hc) hrow cap fr
          have e2' : M2 69 2 = M 69 2 := by rw [f1.2 2 (by omega), am_up_n (by omega)]
          have e70' : M2 70 = M 70 := by rw [f1.1 70 (by omega) (by omega) (by omega), am_up_r (by omega)]
          have e71' : M2 71 = M 71 := by rw [f1.1 71 (by omega) (by omega) (by omega), am_up_r (by omega)]
          refine mp_save (by rw [e2']; exact h2) (fun M3 g1 g2 hp3 => ?_)
          have hp3' : HPm M M3 := HPm_t hp3 e2'.symm e70'.symm e71'.symm rfl rfl
          have hm3 : Mqr (M3 70) D := by rw [g1 70 (by omega) (by omega)]; exact hm1
          have loop : ∀ (r k : Nat) (M4 : am_M), (k : Int) + r = n → (∀ j, j ≠ 70 → M4 j = M3 j) → Mqr (M4 70) (IN D ts vs k) → wl_X6_addAll_144 Q (r + 1) (k : Int) M4 := by
            intro r
            induction r with
            | zero =>
              intro k M4 hk f m4
              have d17 : M4 69 17 = n := by rw [f 69 (by omega), g2 17 (by omega)]; exact s17
              refine ⟨by unfold am_rg; omega, by rw [d17]; unfold am_rg; omega, fun _ => ?_, fun e => absurd (by rw [d17]; omega) e⟩
              have ek : k = n.toNat := by omega
              subst ek
              have e0 : am_up M4 69 4 0 70 0 = D 1 7 + n := by rw [am_up_r (by omega), m4.1, IN_17]; omega
              rw [e0]
              refine hq h8 cap fr _ ⟨fun j a b d e g => ?_, fun j hj a b d => ?_⟩ (HPm_t hp3' rfl rfl rfl ?_ ?_) (by rw [am_up_r (by omega)]; exact m4) ?_ (by rw [am_up_s])
              · rw [am_up_r a, f j b, g1 j a d, f1.1 j a e g, am_up_r a]
              · rw [am_up_n b, f 69 (by omega), g2 j a, f1.2 j hj, am_up_n d]
              · rw [am_up_n (by omega), f 69 (by omega)]
              · rw [am_up_r (by omega), f 71 (by omega)]
              · rw [am_up_n (by omega), f 69 (by omega), g2 5 (by omega), f1.2 5 (by omega), am_up_s]
            | succ r ih =>
              intro k M4 hk f m4
              have d17 : M4 69 17 = n := by rw [f 69 (by omega), g2 17 (by omega)]; exact s17
              obtain ⟨a78, a79⟩ := rowT (k : Int) (by omega) (by omega)
              have d78 : M4 78 (k : Int) = ts (k : Int) := by rw [f 78 (by omega), g1 78 (by omega) (by omega)]; exact a78
              have d79 : M4 79 (k : Int) = vs (k : Int) := by rw [f 79 (by omega), g1 79 (by omega) (by omega)]; exact a79
              obtain ⟨okd, hno⟩ := ins k (by omega)
              have hrk := hrow (k : Int) (by omega) (by omega)
              rw [wl_X6_addAll_144, d17, d78, d79]
              refine ⟨by unfold am_rg; omega, by unfold am_rg; omega, fun e => absurd e (by omega), fun _ => ⟨by omega, by omega, ?_⟩⟩
              refine mp_adds okd m4 (by unfold am_rg; omega) (by rw [IN_17]; omega) (hno (k : Int) (Int.le_refl _) (by omega)) (fun M5 f5 m5 => ?_)
              exact ih (k + 1) M5 (by omega) (fun j hj => (f5 j hj).trans (f j hj)) m5
          exact ⟨_, loop n.toNat 0 M3 (by omega) (fun _ _ => rfl) hm3⟩
      · rcases inv with ⟨-, y⟩ | ⟨y, -⟩
        · exact x2 h8 y _ (FrT_e f1).1 (FrT_e f1).2
        · omega
    have inner : ∀ (k53 : Int → Int → am_M → Prop) (k : Nat), (k : Int) < n → (∀ v, ((v = 0 ∧ ¬ (D 1 7 + n ≤ 60 ∧ frP D ts n)) ∨ (v = 1 ∧ D 1 7 + n ≤ 60 ∧ okP D ts (k : Int))) → k53 v ((k : Int) + 1) M1) → ∀ (r j : Nat) (v : Int), j + r = k → ((v = 0 ∧ ¬ (D 1 7 + n ≤ 60 ∧ frP D ts n)) ∨ (v = 1 ∧ D 1 7 + n ≤ 60 ∧ (∀ i, 0 ≤ i → i < D 1 7 → D 2 i ≠ ts (k : Int)) ∧ ∀ i, 0 ≤ i → i < (j : Int) → ts i ≠ ts (k : Int))) → wl_X6_addAll_86 Q k53 (r + 1) v (k : Int) (j : Int) M1 := by
      intro k53 k hk hcont r
      induction r with
      | zero =>
        intro j v hj inv
        refine ⟨by unfold am_rg; omega, by unfold am_rg; omega, fun _ => hcont v ?_, fun e => absurd (by omega) e⟩
        rcases inv with z | ⟨z, cap, a, b⟩
        · exact Or.inl z
        · exact Or.inr ⟨z, cap, a, fun i i0 i1 => b i i0 (by omega)⟩
      | succ r ih =>
        intro j v hj inv
        obtain ⟨aj, -⟩ := rowT (j : Int) (by omega) (by omega)
        obtain ⟨ak', -⟩ := rowT (k : Int) (by omega) hk
        have b1 := (hrow (j : Int) (by omega) (by omega)).1
        have b2 := (hrow (k : Int) (by omega) hk).1
        refine ⟨by unfold am_rg; omega, by unfold am_rg; omega, fun e => absurd e (by omega), fun _ => ⟨by unfold am_rg; rcases inv with ⟨z, -⟩ | ⟨z, -⟩ <;> omega, fun e => hcont v ?_, fun e => ⟨by omega, by omega, ?_⟩⟩⟩
        · rcases inv with z | ⟨z, -⟩
          · exact Or.inl z
          · omega
        · rw [aj, ak']
          rcases inv with ⟨z, -⟩ | ⟨z, cap, a, b⟩
          · exact absurd z e
          · refine ⟨by unfold am_rg; omega, by unfold am_rg; omega, fun e2 => ih (j + 1) 0 (by omega) (Or.inl ⟨rfl, fun y => (y.2 (k : Int) (by omega) hk).2 (j : Int) (by omega) (by omega) e2⟩), fun e2 => ih (j + 1) 1 (by omega) (Or.inr ⟨rfl, cap, a, fun i i0 i1 => ?_⟩)⟩
            by_cases y : i = (j : Int)
            · rw [y]; exact e2
            · exact b i i0 (by omega)
    have outer : ∀ (r k : Nat) (v : Int), (k : Int) + r = n → ((v = 0 ∧ ¬ (D 1 7 + n ≤ 60 ∧ frP D ts n)) ∨ (v = 1 ∧ D 1 7 + n ≤ 60 ∧ ∀ i, 0 ≤ i → i < (k : Int) → okP D ts i)) → wl_X6_addAll_53 Q (r + 1) v (k : Int) M1 := by
      intro r
      induction r with
      | zero =>
        intro k v hk inv
        refine ⟨by unfold am_rg; omega, by rw [s17]; unfold am_rg; omega, fun _ => J v M1 rfl ?_, fun e => absurd (by rw [s17]; omega) e⟩
        rcases inv with z | ⟨z, cap, a⟩
        · exact Or.inl z
        · exact Or.inr ⟨z, cap, fun i i0 i1 => a i i0 (by omega)⟩
      | succ r ih =>
        intro k v hk inv
        obtain ⟨ak', -⟩ := rowT (k : Int) (by omega) (by omega)
        have b2 := (hrow (k : Int) (by omega) (by omega)).1
        rw [wl_X6_addAll_53, s17, ak']
        refine ⟨by unfold am_rg; omega, by unfold am_rg; omega, fun e => absurd e (by omega), fun _ => ⟨by unfold am_rg; rcases inv with ⟨z, -⟩ | ⟨z, -⟩ <;> omega, fun e => J v M1 rfl ?_, fun e => ⟨by omega, ?_⟩⟩⟩
        · rcases inv with z | ⟨z, -⟩
          · exact Or.inl z
          · omega
        · rcases inv with ⟨z, -⟩ | ⟨z, cap, a⟩
          · exact absurd z e
          · have cont : ∀ v, ((v = 0 ∧ ¬ (D 1 7 + n ≤ 60 ∧ frP D ts n)) ∨ (v = 1 ∧ D 1 7 + n ≤ 60 ∧ okP D ts (k : Int))) → wl_X6_addAll_53 Q (r + 1) v ((k : Int) + 1) M1 := by
              intro v hv
              refine ih (k + 1) v (by omega) ?_
              rcases hv with y | ⟨y, cap', o⟩
              · exact Or.inl y
              · refine Or.inr ⟨y, cap', fun i i0 i1 => ?_⟩
                by_cases w : i = (k : Int)
                · rw [w]; exact o
                · exact a i i0 (by omega)
            refine mp_hasTime hd hm1 (by unfold am_rg; omega) (fun hex => ⟨by unfold am_rg; omega, fun _ => ⟨k + 1, inner _ k (by omega) cont k 0 0 (by omega) (Or.inl ⟨rfl, fun y => ?_⟩)⟩, fun e => absurd (by omega) e⟩) (fun hno => ⟨by unfold am_rg; omega, fun e => absurd rfl e, fun _ => ⟨k + 1, inner _ k (by omega) cont k 0 1 (by omega) (Or.inr ⟨rfl, cap, hno, fun i i0 i1 => by omega⟩)⟩⟩)
            obtain ⟨i, i0, i1, i2⟩ := hex
            exact (y.2 (k : Int) (by omega) (by omega)).1 i i0 i1 i2
    refine ⟨by unfold am_rg; omega, fun z => ⟨_, outer n.toNat 0 0 (by omega) (Or.inl ⟨rfl, fun y => by omega⟩)⟩, fun z => ⟨_, outer n.toNat 0 1 (by omega) (Or.inr ⟨rfl, by omega, fun i i0 i1 => by omega⟩)⟩⟩
  · intro z
    have eq : q = L.toNat := by omega
    rw [← eq] at z
    have := r6.mpr z
    omega
