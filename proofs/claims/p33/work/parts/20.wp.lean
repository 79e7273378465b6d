abbrev dt_X5_refuseOutside : am_D := (tk_X5_refuseOutside, 5, 2, none, tb_hn 19)
def wj_X5_refuseOutside_9 (Q : am_M → Prop) (X : am_X) (M : am_M) : Prop := X 0 M
def wp_X5_refuseOutside (a0 : Int) (a1 : Int) (M : am_M) (Q : am_M → Prop) (X : am_X) : Prop := (am_rg a0) ∧ (a0 < 0 → wj_X5_refuseOutside_9 Q X  M) ∧ (¬ a0 < 0 → (am_rg a0) ∧ (am_rg a1) ∧ (a0 ≤ a1 → Q M) ∧ (¬ a0 ≤ a1 → wj_X5_refuseOutside_9 Q X  M))
set_option maxRecDepth 20000 in
theorem tj_X5_refuseOutside_9 {Q : am_M → Prop} {X : am_X} {QX : am_X} (hX : ∀ E M, X E M → QX E M) (M : am_M) (h : wj_X5_refuseOutside_9 Q X M) : am_W (am_CC 5) dt_X5_refuseOutside 5 0 none (am_QV Q) QX (0, 9, [], [], M) := by
  exact am_Wthr (is := 335) (ic := 63) (E := 0) rfl (Nat.le_of_ble_eq_true rfl) rfl rfl rfl rfl (Or.inr ⟨rfl, rfl, rfl⟩) (hX _ _ h)
set_option maxRecDepth 20000 in
theorem tm_X5_refuseOutside {a0 a1 : Int} {M : am_M} {Q : am_M → Prop} {X : am_X} (h : wp_X5_refuseOutside a0 a1 M Q X) : am_CC 6 19 [.inl (a0), .inl (a1)] M (am_QV Q) X := by
  refine ⟨Nat.le_of_ble_eq_true rfl, ?_⟩
  show am_W (am_CC 5) dt_X5_refuseOutside 5 0 none (am_QV Q) (am_qx 19 X) (0, 0, [(0, .inl (a0)), (1, .inl (a1))], [], M)
  have hX : ∀ E M, X E M → am_qx 19 X E M := fun E M q => ⟨⟨rfl, by decide⟩, q⟩
  refine am_Wrun 1 (ps := []) (pc' := 1) (lv' := [(0, .inl (a0)), (1, .inl (a1))]) (st' := [.inl (a0)]) (M' := M) rfl trivial ?_
  obtain ⟨b0, ht, hf⟩ := h
  refine am_Wbr (P := [am_rg a0]) (c := a0 < 0) (t := 9) (f := 4) (st' := []) rfl rfl ⟨b0, trivial⟩ rfl (fun q => ?_) (fun q => ?_)
  · have h := ht q
    refine am_W_sub [] rfl ?_
    exact tj_X5_refuseOutside_9 hX  M h
  · have h := hf q
    refine am_Wrun 2 (ps := []) (pc' := 6) (lv' := [(0, .inl (a0)), (1, .inl (a1))]) (st' := [.inl (a1), .inl (a0)]) (M' := M) rfl trivial ?_
    obtain ⟨b0, b1, ht, hf⟩ := h
    refine am_Wbr (P := [am_rg a0, am_rg a1]) (c := a0 ≤ a1) (t := 20) (f := 9) (st' := []) rfl rfl ⟨b0, b1, trivial⟩ rfl (fun q => ?_) (fun q => ?_)
    · have h := ht q
      exact am_Wretv rfl rfl h
    · have h := hf q
      refine am_W_sub [] rfl ?_
      exact tj_X5_refuseOutside_9 hX  M h
abbrev dt_X2_keptPoints : am_D := (tk_X2_keptPoints, 2, 3, some .int, tb_hn 5)
def wl_X2_keptPoints_4 (Q : Int → am_M → Prop) : Nat → Int → Int → am_M → Prop
  | 0, _, _, _ => False
  | n + 1, v1, v2, M => (am_rg v2) ∧ (am_rg (M 1 7)) ∧ ((M 1 7) ≤ v2 → Q v1 M) ∧ (¬ (M 1 7) ≤ v2 → (0 ≤ (v2 : Int) ∧ (v2 : Int) < 60) ∧ (wl_X2_keptPoints_4 Q n (v1 + (M 4 v2)) (v2 + 1) M))
def wp_X2_keptPoints (M : am_M) (Q : Int → am_M → Prop) : Prop := ∃ e4, wl_X2_keptPoints_4 Q e4 0 0 M
set_option maxRecDepth 20000 in
theorem tw_X2_keptPoints_4 {Q : Int → am_M → Prop} {QX : am_X} : ∀ (n : Nat) (v1 : Int) (v2 : Int) (M : am_M), wl_X2_keptPoints_4 Q n v1 v2 M → am_W (am_CC 0) dt_X2_keptPoints 0 0 none (am_QI Q) QX (0, 4, [(0, .inr (.inl (some 1))), (1, .inl (v1)), (2, .inl (v2))], [], M)
  | 0, _, _, _, h => h.elim
  | n + 1, v1, v2, M, h => by
    refine am_Wrun 3 (ps := []) (pc' := 9) (lv' := [(0, .inr (.inl (some 1))), (1, .inl (v1)), (2, .inl (v2))]) (st' := [.inl (M 1 7), .inl (v2)]) (M' := M) rfl trivial ?_
    obtain ⟨b0, b1, ht, hf⟩ := h
    refine am_Wbr (P := [am_rg v2, am_rg (M 1 7)]) (c := (M 1 7) ≤ v2) (t := 27) (f := 12) (st' := []) rfl rfl ⟨b0, b1, trivial⟩ rfl (fun q => ?_) (fun q => ?_)
    · have h := ht q
      refine am_Wrun 1 (ps := []) (pc' := 28) (lv' := [(0, .inr (.inl (some 1))), (1, .inl (v1)), (2, .inl (v2))]) (st' := [.inl (v1)]) (M' := M) rfl trivial ?_
      exact am_Wreti rfl rfl h
    · have h := hf q
      obtain ⟨c0_0, h⟩ := h
      refine am_Wrun 9 (ps := [0 ≤ (v2 : Int) ∧ (v2 : Int) < 60]) (pc' := 4) (lv' := [(2, .inl (v2 + 1)), (1, .inl (v1 + (M 4 v2))), (0, .inr (.inl (some 1)))]) (st' := []) (M' := M) rfl ⟨c0_0, trivial⟩ ?_
      refine am_W_sub [2, 1, 0] rfl ?_
      exact tw_X2_keptPoints_4 n (v1 + (M 4 v2)) (v2 + 1) M h
set_option maxRecDepth 20000 in
theorem tm_X2_keptPoints {M : am_M} {Q : Int → am_M → Prop} (h : wp_X2_keptPoints M Q) : am_CC 1 5 [.inr (.inl (some 1))] M (am_QI Q) (fun _ _ => False) := by
  refine ⟨Nat.le_of_ble_eq_true rfl, ?_⟩
  show am_W (am_CC 0) dt_X2_keptPoints 0 0 none (am_QI Q) (am_qx 5 (fun _ _ => False)) (0, 0, [(0, .inr (.inl (some 1)))], [], M)
  refine am_Wrun 4 (ps := []) (pc' := 4) (lv' := [(2, .inl (0)), (1, .inl (0)), (0, .inr (.inl (some 1)))]) (st' := []) (M' := M) rfl trivial ?_
  refine am_W_sub [2, 1, 0] rfl ?_
  obtain ⟨n4, h⟩ := h
  exact tw_X2_keptPoints_4 n4 0 0 M h
abbrev dt_X2_hasPoint : am_D := (tk_X2_hasPoint, 2, 2, some .boolean, tb_hn 9)
def wp_X2_hasPoint (a0 : Int) (M : am_M) (Q : Int → am_M → Prop) : Prop := (am_rg a0) ∧ (a0 < 0 → Q 0 M) ∧ (¬ a0 < 0 → (am_rg a0) ∧ (am_rg (M 1 7)) ∧ ((M 1 7) ≤ a0 → Q 0 M) ∧ (¬ (M 1 7) ≤ a0 → Q 1 M))
set_option maxRecDepth 20000 in
theorem tm_X2_hasPoint {a0 : Int} {M : am_M} {Q : Int → am_M → Prop} (h : wp_X2_hasPoint a0 M Q) : am_CC 1 9 [.inr (.inl (some 1)), .inl (a0)] M (am_QI Q) (fun _ _ => False) := by
  refine ⟨Nat.le_of_ble_eq_true rfl, ?_⟩
  show am_W (am_CC 0) dt_X2_hasPoint 0 0 none (am_QI Q) (am_qx 9 (fun _ _ => False)) (0, 0, [(0, .inr (.inl (some 1))), (1, .inl (a0))], [], M)
  refine am_Wrun 1 (ps := []) (pc' := 1) (lv' := [(0, .inr (.inl (some 1))), (1, .inl (a0))]) (st' := [.inl (a0)]) (M' := M) rfl trivial ?_
  obtain ⟨b0, ht, hf⟩ := h
  refine am_Wbr (P := [am_rg a0]) (c := a0 < 0) (t := 16) (f := 4) (st' := []) rfl rfl ⟨b0, trivial⟩ rfl (fun q => ?_) (fun q => ?_)
  · have h := ht q
    refine am_Wrun 1 (ps := []) (pc' := 17) (lv' := [(0, .inr (.inl (some 1))), (1, .inl (a0))]) (st' := [.inl (0)]) (M' := M) rfl trivial ?_
    exact am_Wretz rfl rfl (Or.inl rfl) h
  · have h := hf q
    refine am_Wrun 3 (ps := []) (pc' := 9) (lv' := [(0, .inr (.inl (some 1))), (1, .inl (a0))]) (st' := [.inl (M 1 7), .inl (a0)]) (M' := M) rfl trivial ?_
    obtain ⟨b0, b1, ht, hf⟩ := h
    refine am_Wbr (P := [am_rg a0, am_rg (M 1 7)]) (c := (M 1 7) ≤ a0) (t := 16) (f := 12) (st' := []) rfl rfl ⟨b0, b1, trivial⟩ rfl (fun q => ?_) (fun q => ?_)
    · have h := ht q
      refine am_Wrun 1 (ps := []) (pc' := 17) (lv' := [(0, .inr (.inl (some 1))), (1, .inl (a0))]) (st' := [.inl (0)]) (M' := M) rfl trivial ?_
      exact am_Wretz rfl rfl (Or.inl rfl) h
    · have h := hf q
      refine am_Wrun 2 (ps := []) (pc' := 17) (lv' := [(0, .inr (.inl (some 1))), (1, .inl (a0))]) (st' := [.inl (1)]) (M' := M) rfl trivial ?_
      exact am_Wretz rfl rfl (Or.inr rfl) h
abbrev dt_X2_isKept : am_D := (tk_X2_isKept, 2, 2, some .boolean, tb_hn 8)
def wp_X2_isKept (a0 : Int) (M : am_M) (Q : Int → am_M → Prop) : Prop := wp_X2_hasPoint a0 M (fun x1 M2 => (am_rg x1) ∧ (x1 = 0 → Q 0 M2) ∧ (¬ x1 = 0 → (0 ≤ (a0 : Int) ∧ (a0 : Int) < 60) ∧ ((am_rg (M2 4 a0)) ∧ (¬ (M2 4 a0) = 1 → Q 0 M2) ∧ (¬ (¬ (M2 4 a0) = 1) → Q 1 M2))))
set_option maxRecDepth 20000 in
theorem tm_X2_isKept {a0 : Int} {M : am_M} {Q : Int → am_M → Prop} (h : wp_X2_isKept a0 M Q) : am_CC 2 8 [.inr (.inl (some 1)), .inl (a0)] M (am_QI Q) (fun _ _ => False) := by
  refine ⟨Nat.le_of_ble_eq_true rfl, ?_⟩
  show am_W (am_CC 1) dt_X2_isKept 1 0 none (am_QI Q) (am_qx 8 (fun _ _ => False)) (0, 0, [(0, .inr (.inl (some 1))), (1, .inl (a0))], [], M)
  refine am_Wrun 2 (ps := []) (pc' := 2) (lv' := [(0, .inr (.inl (some 1))), (1, .inl (a0))]) (st' := [.inl (a0), .inr (.inl (some 1))]) (M' := M) rfl trivial ?_
  refine am_WcallV (y := 9) (n := 2) (a := 1) (f := 5) (as := [.inl (a0)]) (st' := []) rfl rfl rfl rfl rfl rfl rfl rfl rfl rfl (Nat.zero_le _) rfl (am_CC_le (Nat.le_of_ble_eq_true rfl) (tm_X2_hasPoint h)) (fun r M2 q => ?_) (fun _ _ q => q.elim)
  obtain ⟨x1, rfl, h⟩ := q
  obtain ⟨b0, ht, hf⟩ := h
  refine am_Wbr (P := [am_rg x1]) (c := x1 = 0) (t := 22) (f := 8) (st' := []) rfl rfl ⟨b0, trivial⟩ rfl (fun q => ?_) (fun q => ?_)
  · have h := ht q
    refine am_Wrun 1 (ps := []) (pc' := 23) (lv' := [(0, .inr (.inl (some 1))), (1, .inl (a0))]) (st' := [.inl (0)]) (M' := M2) rfl trivial ?_
    exact am_Wretz rfl rfl (Or.inl rfl) h
  · have h := hf q
    obtain ⟨c0_0, h⟩ := h
    refine am_Wrun 5 (ps := [0 ≤ (a0 : Int) ∧ (a0 : Int) < 60]) (pc' := 15) (lv' := [(0, .inr (.inl (some 1))), (1, .inl (a0))]) (st' := [.inl (1), .inl (M2 4 a0)]) (M' := M2) rfl ⟨c0_0, trivial⟩ ?_
    obtain ⟨b0, ht, hf⟩ := h
    refine am_Wbr (P := [am_rg (M2 4 a0), am_rg 1]) (c := ¬ (M2 4 a0) = 1) (t := 22) (f := 18) (st' := []) rfl rfl ⟨b0, (am_rgd rfl), trivial⟩ rfl (fun q => ?_) (fun q => ?_)
    · have h := ht q
      refine am_Wrun 1 (ps := []) (pc' := 23) (lv' := [(0, .inr (.inl (some 1))), (1, .inl (a0))]) (st' := [.inl (0)]) (M' := M2) rfl trivial ?_
      exact am_Wretz rfl rfl (Or.inl rfl) h
    · have h := hf q
      refine am_Wrun 2 (ps := []) (pc' := 23) (lv' := [(0, .inr (.inl (some 1))), (1, .inl (a0))]) (st' := [.inl (1)]) (M' := M2) rfl trivial ?_
      exact am_Wretz rfl rfl (Or.inr rfl) h
abbrev dt_X2_keptBelow : am_D := (tk_X2_keptBelow, 2, 3, some .int, tb_hn 11)
def wl_X2_keptBelow_11 (Q : Int → am_M → Prop) : Nat → Int → am_M → Prop
  | 0, _, _ => False
  | n + 1, v2, M => (am_rg v2) ∧ (v2 < 0 → Q (-1000000) M) ∧ (¬ v2 < 0 → (0 ≤ (v2 : Int) ∧ (v2 : Int) < 60) ∧ ((am_rg (M 4 v2)) ∧ (¬ (M 4 v2) = 1 → wl_X2_keptBelow_11 Q n (v2 + (-1)) M) ∧ (¬ (¬ (M 4 v2) = 1) → Q v2 M)))
def wp_X2_keptBelow (a0 : Int) (M : am_M) (Q : Int → am_M → Prop) : Prop := (am_rg a0) ∧ (am_rg (M 1 7)) ∧ (∃ e11, wl_X2_keptBelow_11 Q e11 ((if (M 1 7) < a0 then (M 1 7) else a0) - 1) M)
set_option maxRecDepth 20000 in
theorem tw_X2_keptBelow_11 {Q : Int → am_M → Prop} {QX : am_X} : ∀ (n : Nat) (v2 : Int) (M : am_M), wl_X2_keptBelow_11 Q n v2 M → am_W (am_CC 0) dt_X2_keptBelow 0 0 none (am_QI Q) QX (0, 11, [(0, .inr (.inl (some 1))), (2, .inl (v2))], [], M)
  | 0, _, _, h => h.elim
  | n + 1, v2, M, h => by
    refine am_Wrun 1 (ps := []) (pc' := 12) (lv' := [(0, .inr (.inl (some 1))), (2, .inl (v2))]) (st' := [.inl (v2)]) (M' := M) rfl trivial ?_
    obtain ⟨b0, ht, hf⟩ := h
    refine am_Wbr (P := [am_rg v2]) (c := v2 < 0) (t := 33) (f := 15) (st' := []) rfl rfl ⟨b0, trivial⟩ rfl (fun q => ?_) (fun q => ?_)
    · have h := ht q
      refine am_Wrun 1 (ps := []) (pc' := 35) (lv' := [(0, .inr (.inl (some 1))), (2, .inl (v2))]) (st' := [.inl ((-1000000))]) (M' := M) rfl trivial ?_
      exact am_Wreti rfl rfl h
    · have h := hf q
      obtain ⟨c0_0, h⟩ := h
      refine am_Wrun 5 (ps := [0 ≤ (v2 : Int) ∧ (v2 : Int) < 60]) (pc' := 22) (lv' := [(0, .inr (.inl (some 1))), (2, .inl (v2))]) (st' := [.inl (1), .inl (M 4 v2)]) (M' := M) rfl ⟨c0_0, trivial⟩ ?_
      obtain ⟨b0, ht, hf⟩ := h
      refine am_Wbr (P := [am_rg (M 4 v2), am_rg 1]) (c := ¬ (M 4 v2) = 1) (t := 27) (f := 25) (st' := []) rfl rfl ⟨b0, (am_rgd rfl), trivial⟩ rfl (fun q => ?_) (fun q => ?_)
      · have h := ht q
        refine am_Wrun 2 (ps := []) (pc' := 11) (lv' := [(2, .inl (v2 + (-1))), (0, .inr (.inl (some 1)))]) (st' := []) (M' := M) rfl trivial ?_
        refine am_W_sub [1, 0] rfl ?_
        exact tw_X2_keptBelow_11 n (v2 + (-1)) M h
      · have h := hf q
        refine am_Wrun 1 (ps := []) (pc' := 26) (lv' := [(0, .inr (.inl (some 1))), (2, .inl (v2))]) (st' := [.inl (v2)]) (M' := M) rfl trivial ?_
        exact am_Wreti rfl rfl h
set_option maxRecDepth 20000 in
theorem tm_X2_keptBelow {a0 : Int} {M : am_M} {Q : Int → am_M → Prop} (h : wp_X2_keptBelow a0 M Q) : am_CC 1 11 [.inr (.inl (some 1)), .inl (a0)] M (am_QI Q) (fun _ _ => False) := by
  refine ⟨Nat.le_of_ble_eq_true rfl, ?_⟩
  show am_W (am_CC 0) dt_X2_keptBelow 0 0 none (am_QI Q) (am_qx 11 (fun _ _ => False)) (0, 0, [(0, .inr (.inl (some 1))), (1, .inl (a0))], [], M)
  obtain ⟨c0_0, c0_1, h⟩ := h
  refine am_Wrun 7 (ps := [am_rg a0 ∧ am_rg (M 1 7) ∧ am_cs [] ≤ 8]) (pc' := 11) (lv' := [(2, .inl ((if (M 1 7) < a0 then (M 1 7) else a0) - 1)), (0, .inr (.inl (some 1))), (1, .inl (a0))]) (st' := []) (M' := M) rfl ⟨⟨c0_0, c0_1, (by decide)⟩, trivial⟩ ?_
  refine am_W_sub [1, 0] rfl ?_
  obtain ⟨n11, h⟩ := h
  exact tw_X2_keptBelow_11 n11 ((if (M 1 7) < a0 then (M 1 7) else a0) - 1) M h
abbrev dt_X2_sameStretch : am_D := (tk_X2_sameStretch, 2, 3, some .boolean, tb_hn 12)
def wp_X2_sameStretch (a0 : Int) (a1 : Int) (M : am_M) (Q : Int → am_M → Prop) : Prop := (am_rg a0) ∧ (a0 < 0 → Q 0 M) ∧ (¬ a0 < 0 → (am_rg a0) ∧ (am_rg (M 1 7)) ∧ ((M 1 7) ≤ a0 → Q 0 M) ∧ (¬ (M 1 7) ≤ a0 → (am_rg a1) ∧ (a1 < 0 → Q 0 M) ∧ (¬ a1 < 0 → (am_rg a1) ∧ (am_rg (M 1 7)) ∧ ((M 1 7) ≤ a1 → Q 0 M) ∧ (¬ (M 1 7) ≤ a1 → (0 ≤ (a0 : Int) ∧ (a0 : Int) < 60) ∧ (0 ≤ (a1 : Int) ∧ (a1 : Int) < 60) ∧ ((am_rg (M 5 a0)) ∧ (am_rg (M 5 a1)) ∧ (¬ (M 5 a0) = (M 5 a1) → Q 0 M) ∧ (¬ (¬ (M 5 a0) = (M 5 a1)) → Q 1 M))))))
set_option maxRecDepth 20000 in
theorem tm_X2_sameStretch {a0 a1 : Int} {M : am_M} {Q : Int → am_M → Prop} (h : wp_X2_sameStretch a0 a1 M Q) : am_CC 1 12 [.inr (.inl (some 1)), .inl (a0), .inl (a1)] M (am_QI Q) (fun _ _ => False) := by
  refine ⟨Nat.le_of_ble_eq_true rfl, ?_⟩
  show am_W (am_CC 0) dt_X2_sameStretch 0 0 none (am_QI Q) (am_qx 12 (fun _ _ => False)) (0, 0, [(0, .inr (.inl (some 1))), (1, .inl (a0)), (2, .inl (a1))], [], M)
  refine am_Wrun 1 (ps := []) (pc' := 1) (lv' := [(0, .inr (.inl (some 1))), (1, .inl (a0)), (2, .inl (a1))]) (st' := [.inl (a0)]) (M' := M) rfl trivial ?_
  obtain ⟨b0, ht, hf⟩ := h
  refine am_Wbr (P := [am_rg a0]) (c := a0 < 0) (t := 43) (f := 4) (st' := []) rfl rfl ⟨b0, trivial⟩ rfl (fun q => ?_) (fun q => ?_)
  · have h := ht q
    refine am_Wrun 1 (ps := []) (pc' := 44) (lv' := [(0, .inr (.inl (some 1))), (1, .inl (a0)), (2, .inl (a1))]) (st' := [.inl (0)]) (M' := M) rfl trivial ?_
    exact am_Wretz rfl rfl (Or.inl rfl) h
  · have h := hf q
    refine am_Wrun 3 (ps := []) (pc' := 9) (lv' := [(0, .inr (.inl (some 1))), (1, .inl (a0)), (2, .inl (a1))]) (st' := [.inl (M 1 7), .inl (a0)]) (M' := M) rfl trivial ?_
    obtain ⟨b0, b1, ht, hf⟩ := h
    refine am_Wbr (P := [am_rg a0, am_rg (M 1 7)]) (c := (M 1 7) ≤ a0) (t := 43) (f := 12) (st' := []) rfl rfl ⟨b0, b1, trivial⟩ rfl (fun q => ?_) (fun q => ?_)
    · have h := ht q
      refine am_Wrun 1 (ps := []) (pc' := 44) (lv' := [(0, .inr (.inl (some 1))), (1, .inl (a0)), (2, .inl (a1))]) (st' := [.inl (0)]) (M' := M) rfl trivial ?_
      exact am_Wretz rfl rfl (Or.inl rfl) h
    · have h := hf q
      refine am_Wrun 1 (ps := []) (pc' := 13) (lv' := [(0, .inr (.inl (some 1))), (1, .inl (a0)), (2, .inl (a1))]) (st' := [.inl (a1)]) (M' := M) rfl trivial ?_
      obtain ⟨b0, ht, hf⟩ := h
      refine am_Wbr (P := [am_rg a1]) (c := a1 < 0) (t := 43) (f := 16) (st' := []) rfl rfl ⟨b0, trivial⟩ rfl (fun q => ?_) (fun q => ?_)
      · have h := ht q
        refine am_Wrun 1 (ps := []) (pc' := 44) (lv' := [(0, .inr (.inl (some 1))), (1, .inl (a0)), (2, .inl (a1))]) (st' := [.inl (0)]) (M' := M) rfl trivial ?_
        exact am_Wretz rfl rfl (Or.inl rfl) h
      · have h := hf q
        refine am_Wrun 3 (ps := []) (pc' := 21) (lv' := [(0, .inr (.inl (some 1))), (1, .inl (a0)), (2, .inl (a1))]) (st' := [.inl (M 1 7), .inl (a1)]) (M' := M) rfl trivial ?_
        obtain ⟨b0, b1, ht, hf⟩ := h
        refine am_Wbr (P := [am_rg a1, am_rg (M 1 7)]) (c := (M 1 7) ≤ a1) (t := 43) (f := 24) (st' := []) rfl rfl ⟨b0, b1, trivial⟩ rfl (fun q => ?_) (fun q => ?_)
        · have h := ht q
          refine am_Wrun 1 (ps := []) (pc' := 44) (lv' := [(0, .inr (.inl (some 1))), (1, .inl (a0)), (2, .inl (a1))]) (st' := [.inl (0)]) (M' := M) rfl trivial ?_
          exact am_Wretz rfl rfl (Or.inl rfl) h
        · have h := hf q
          obtain ⟨c0_0, c1_0, h⟩ := h
          refine am_Wrun 8 (ps := [0 ≤ (a0 : Int) ∧ (a0 : Int) < 60, 0 ≤ (a1 : Int) ∧ (a1 : Int) < 60]) (pc' := 36) (lv' := [(0, .inr (.inl (some 1))), (1, .inl (a0)), (2, .inl (a1))]) (st' := [.inl (M 5 a1), .inl (M 5 a0)]) (M' := M) rfl ⟨c0_0, c1_0, trivial⟩ ?_
          obtain ⟨b0, b1, ht, hf⟩ := h
          refine am_Wbr (P := [am_rg (M 5 a0), am_rg (M 5 a1)]) (c := ¬ (M 5 a0) = (M 5 a1)) (t := 43) (f := 39) (st' := []) rfl rfl ⟨b0, b1, trivial⟩ rfl (fun q => ?_) (fun q => ?_)
          · have h := ht q
            refine am_Wrun 1 (ps := []) (pc' := 44) (lv' := [(0, .inr (.inl (some 1))), (1, .inl (a0)), (2, .inl (a1))]) (st' := [.inl (0)]) (M' := M) rfl trivial ?_
            exact am_Wretz rfl rfl (Or.inl rfl) h
          · have h := hf q
            refine am_Wrun 2 (ps := []) (pc' := 44) (lv' := [(0, .inr (.inl (some 1))), (1, .inl (a0)), (2, .inl (a1))]) (st' := [.inl (1)]) (M' := M) rfl trivial ?_
            exact am_Wretz rfl rfl (Or.inr rfl) h
abbrev dt_X2_earlierKept : am_D := (tk_X2_earlierKept, 2, 3, some .int, tb_hn 10)
def wp_X2_earlierKept (a0 : Int) (M : am_M) (Q : Int → am_M → Prop) : Prop := wp_X2_keptBelow a0 M (fun x1 M2 => wp_X2_sameStretch x1 a0 M2 (fun x3 M4 => (am_rg x3) ∧ (x3 = 0 → Q (-1000000) M4) ∧ (¬ x3 = 0 → Q x1 M4)))
set_option maxRecDepth 20000 in
theorem tm_X2_earlierKept {a0 : Int} {M : am_M} {Q : Int → am_M → Prop} (h : wp_X2_earlierKept a0 M Q) : am_CC 2 10 [.inr (.inl (some 1)), .inl (a0)] M (am_QI Q) (fun _ _ => False) := by
  refine ⟨Nat.le_of_ble_eq_true rfl, ?_⟩
  show am_W (am_CC 1) dt_X2_earlierKept 1 0 none (am_QI Q) (am_qx 10 (fun _ _ => False)) (0, 0, [(0, .inr (.inl (some 1))), (1, .inl (a0))], [], M)
  refine am_Wrun 2 (ps := []) (pc' := 2) (lv' := [(0, .inr (.inl (some 1))), (1, .inl (a0))]) (st' := [.inl (a0), .inr (.inl (some 1))]) (M' := M) rfl trivial ?_
  refine am_WcallV (y := 11) (n := 2) (a := 1) (f := 5) (as := [.inl (a0)]) (st' := []) rfl rfl rfl rfl rfl rfl rfl rfl rfl rfl (Nat.zero_le _) rfl (am_CC_le (Nat.le_of_ble_eq_true rfl) (tm_X2_keptBelow h)) (fun r M2 q => ?_) (fun _ _ q => q.elim)
  obtain ⟨x1, rfl, h⟩ := q
  refine am_Wrun 4 (ps := []) (pc' := 9) (lv' := [(2, .inl (x1)), (0, .inr (.inl (some 1))), (1, .inl (a0))]) (st' := [.inl (a0), .inl (x1), .inr (.inl (some 1))]) (M' := M2) rfl trivial ?_
  refine am_WcallV (y := 12) (n := 3) (a := 1) (f := 12) (as := [.inl (x1), .inl (a0)]) (st' := []) rfl rfl rfl rfl rfl rfl rfl rfl rfl rfl (Nat.zero_le _) rfl (am_CC_le (Nat.le_of_ble_eq_true rfl) (tm_X2_sameStretch h)) (fun r M4 q => ?_) (fun _ _ q => q.elim)
  obtain ⟨x3, rfl, h⟩ := q
  obtain ⟨b0, ht, hf⟩ := h
  refine am_Wbr (P := [am_rg x3]) (c := x3 = 0) (t := 19) (f := 15) (st' := []) rfl rfl ⟨b0, trivial⟩ rfl (fun q => ?_) (fun q => ?_)
  · have h := ht q
    refine am_Wrun 1 (ps := []) (pc' := 21) (lv' := [(2, .inl (x1)), (0, .inr (.inl (some 1))), (1, .inl (a0))]) (st' := [.inl ((-1000000))]) (M' := M4) rfl trivial ?_
    exact am_Wreti rfl rfl h
  · have h := hf q
    refine am_Wrun 2 (ps := []) (pc' := 21) (lv' := [(2, .inl (x1)), (0, .inr (.inl (some 1))), (1, .inl (a0))]) (st' := [.inl (x1)]) (M' := M4) rfl trivial ?_
    exact am_Wreti rfl rfl h
abbrev dt_X2_keptFrom : am_D := (tk_X2_keptFrom, 2, 3, some .int, tb_hn 14)
def wl_X2_keptFrom_6 (Q : Int → am_M → Prop) : Nat → Int → am_M → Prop
  | 0, _, _ => False
  | n + 1, v2, M => (am_rg v2) ∧ (am_rg (M 1 7)) ∧ ((M 1 7) ≤ v2 → Q (-1000000) M) ∧ (¬ (M 1 7) ≤ v2 → (0 ≤ (v2 : Int) ∧ (v2 : Int) < 60) ∧ ((am_rg (M 4 v2)) ∧ (¬ (M 4 v2) = 1 → wl_X2_keptFrom_6 Q n (v2 + 1) M) ∧ (¬ (¬ (M 4 v2) = 1) → Q v2 M)))
def wp_X2_keptFrom (a0 : Int) (M : am_M) (Q : Int → am_M → Prop) : Prop := (am_rg a0) ∧ (∃ e6, wl_X2_keptFrom_6 Q e6 (if a0 < 0 then 0 else a0) M)
set_option maxRecDepth 20000 in
theorem tw_X2_keptFrom_6 {Q : Int → am_M → Prop} {QX : am_X} : ∀ (n : Nat) (v2 : Int) (M : am_M), wl_X2_keptFrom_6 Q n v2 M → am_W (am_CC 0) dt_X2_keptFrom 0 0 none (am_QI Q) QX (0, 6, [(0, .inr (.inl (some 1))), (2, .inl (v2))], [], M)
  | 0, _, _, h => h.elim
  | n + 1, v2, M, h => by
    refine am_Wrun 3 (ps := []) (pc' := 11) (lv' := [(0, .inr (.inl (some 1))), (2, .inl (v2))]) (st' := [.inl (M 1 7), .inl (v2)]) (M' := M) rfl trivial ?_
    obtain ⟨b0, b1, ht, hf⟩ := h
    refine am_Wbr (P := [am_rg v2, am_rg (M 1 7)]) (c := (M 1 7) ≤ v2) (t := 32) (f := 14) (st' := []) rfl rfl ⟨b0, b1, trivial⟩ rfl (fun q => ?_) (fun q => ?_)
    · have h := ht q
      refine am_Wrun 1 (ps := []) (pc' := 34) (lv' := [(0, .inr (.inl (some 1))), (2, .inl (v2))]) (st' := [.inl ((-1000000))]) (M' := M) rfl trivial ?_
      exact am_Wreti rfl rfl h
    · have h := hf q
      obtain ⟨c0_0, h⟩ := h
      refine am_Wrun 5 (ps := [0 ≤ (v2 : Int) ∧ (v2 : Int) < 60]) (pc' := 21) (lv' := [(0, .inr (.inl (some 1))), (2, .inl (v2))]) (st' := [.inl (1), .inl (M 4 v2)]) (M' := M) rfl ⟨c0_0, trivial⟩ ?_
      obtain ⟨b0, ht, hf⟩ := h
      refine am_Wbr (P := [am_rg (M 4 v2), am_rg 1]) (c := ¬ (M 4 v2) = 1) (t := 26) (f := 24) (st' := []) rfl rfl ⟨b0, (am_rgd rfl), trivial⟩ rfl (fun q => ?_) (fun q => ?_)
      · have h := ht q
        refine am_Wrun 2 (ps := []) (pc' := 6) (lv' := [(2, .inl (v2 + 1)), (0, .inr (.inl (some 1)))]) (st' := []) (M' := M) rfl trivial ?_
        refine am_W_sub [1, 0] rfl ?_
        exact tw_X2_keptFrom_6 n (v2 + 1) M h
      · have h := hf q
        refine am_Wrun 1 (ps := []) (pc' := 25) (lv' := [(0, .inr (.inl (some 1))), (2, .inl (v2))]) (st' := [.inl (v2)]) (M' := M) rfl trivial ?_
        exact am_Wreti rfl rfl h
set_option maxRecDepth 20000 in
theorem tm_X2_keptFrom {a0 : Int} {M : am_M} {Q : Int → am_M → Prop} (h : wp_X2_keptFrom a0 M Q) : am_CC 1 14 [.inr (.inl (some 1)), .inl (a0)] M (am_QI Q) (fun _ _ => False) := by
  refine ⟨Nat.le_of_ble_eq_true rfl, ?_⟩
  show am_W (am_CC 0) dt_X2_keptFrom 0 0 none (am_QI Q) (am_qx 14 (fun _ _ => False)) (0, 0, [(0, .inr (.inl (some 1))), (1, .inl (a0))], [], M)
  obtain ⟨c0_0, h⟩ := h
  refine am_Wrun 4 (ps := [am_rg a0 ∧ am_rg 0 ∧ am_cs [] ≤ 8]) (pc' := 6) (lv' := [(2, .inl (if a0 < 0 then 0 else a0)), (0, .inr (.inl (some 1))), (1, .inl (a0))]) (st' := []) (M' := M) rfl ⟨⟨c0_0, (am_rgd rfl), (by decide)⟩, trivial⟩ ?_
  refine am_W_sub [1, 0] rfl ?_
  obtain ⟨n6, h⟩ := h
  exact tw_X2_keptFrom_6 n6 (if a0 < 0 then 0 else a0) M h
abbrev dt_X2_laterKept : am_D := (tk_X2_laterKept, 2, 3, some .int, tb_hn 13)
def wp_X2_laterKept (a0 : Int) (M : am_M) (Q : Int → am_M → Prop) : Prop := wp_X2_keptFrom (a0 + 1) M (fun x1 M2 => wp_X2_sameStretch a0 x1 M2 (fun x3 M4 => (am_rg x3) ∧ (x3 = 0 → Q (-1000000) M4) ∧ (¬ x3 = 0 → Q x1 M4)))
set_option maxRecDepth 20000 in
theorem tm_X2_laterKept {a0 : Int} {M : am_M} {Q : Int → am_M → Prop} (h : wp_X2_laterKept a0 M Q) : am_CC 2 13 [.inr (.inl (some 1)), .inl (a0)] M (am_QI Q) (fun _ _ => False) := by
  refine ⟨Nat.le_of_ble_eq_true rfl, ?_⟩
  show am_W (am_CC 1) dt_X2_laterKept 1 0 none (am_QI Q) (am_qx 13 (fun _ _ => False)) (0, 0, [(0, .inr (.inl (some 1))), (1, .inl (a0))], [], M)
  refine am_Wrun 4 (ps := []) (pc' := 4) (lv' := [(0, .inr (.inl (some 1))), (1, .inl (a0))]) (st' := [.inl (a0 + 1), .inr (.inl (some 1))]) (M' := M) rfl trivial ?_
  refine am_WcallV (y := 14) (n := 2) (a := 1) (f := 7) (as := [.inl (a0 + 1)]) (st' := []) rfl rfl rfl rfl rfl rfl rfl rfl rfl rfl (Nat.zero_le _) rfl (am_CC_le (Nat.le_of_ble_eq_true rfl) (tm_X2_keptFrom h)) (fun r M2 q => ?_) (fun _ _ q => q.elim)
  obtain ⟨x1, rfl, h⟩ := q
  refine am_Wrun 4 (ps := []) (pc' := 11) (lv' := [(2, .inl (x1)), (0, .inr (.inl (some 1))), (1, .inl (a0))]) (st' := [.inl (x1), .inl (a0), .inr (.inl (some 1))]) (M' := M2) rfl trivial ?_
  refine am_WcallV (y := 12) (n := 3) (a := 1) (f := 14) (as := [.inl (a0), .inl (x1)]) (st' := []) rfl rfl rfl rfl rfl rfl rfl rfl rfl rfl (Nat.zero_le _) rfl (am_CC_le (Nat.le_of_ble_eq_true rfl) (tm_X2_sameStretch h)) (fun r M4 q => ?_) (fun _ _ q => q.elim)
  obtain ⟨x3, rfl, h⟩ := q
  obtain ⟨b0, ht, hf⟩ := h
  refine am_Wbr (P := [am_rg x3]) (c := x3 = 0) (t := 21) (f := 17) (st' := []) rfl rfl ⟨b0, trivial⟩ rfl (fun q => ?_) (fun q => ?_)
  · have h := ht q
    refine am_Wrun 1 (ps := []) (pc' := 23) (lv' := [(2, .inl (x1)), (0, .inr (.inl (some 1))), (1, .inl (a0))]) (st' := [.inl ((-1000000))]) (M' := M4) rfl trivial ?_
    exact am_Wreti rfl rfl h
  · have h := hf q
    refine am_Wrun 2 (ps := []) (pc' := 23) (lv' := [(2, .inl (x1)), (0, .inr (.inl (some 1))), (1, .inl (a0))]) (st' := [.inl (x1)]) (M' := M4) rfl trivial ?_
    exact am_Wreti rfl rfl h
abbrev dt_X2_isStep : am_D := (tk_X2_isStep, 2, 1, some .boolean, tb_hn 16)
def wp_X2_isStep (M : am_M) (Q : Int → am_M → Prop) : Prop := (am_rg (M 6 2)) ∧ (¬ (M 6 2) = 1 → Q 0 M) ∧ (¬ (¬ (M 6 2) = 1) → Q 1 M)
set_option maxRecDepth 20000 in
theorem tm_X2_isStep {M : am_M} {Q : Int → am_M → Prop} (h : wp_X2_isStep M Q) : am_CC 1 16 [.inr (.inl (some 1))] M (am_QI Q) (fun _ _ => False) := by
  refine ⟨Nat.le_of_ble_eq_true rfl, ?_⟩
  show am_W (am_CC 0) dt_X2_isStep 0 0 none (am_QI Q) (am_qx 16 (fun _ _ => False)) (0, 0, [(0, .inr (.inl (some 1)))], [], M)
  refine am_Wrun 5 (ps := [0 ≤ (2 : Int) ∧ (2 : Int) < 3]) (pc' := 7) (lv' := [(0, .inr (.inl (some 1)))]) (st' := [.inl (1), .inl (M 6 2)]) (M' := M) rfl ⟨⟨by decide, by decide⟩, trivial⟩ ?_
  obtain ⟨b0, ht, hf⟩ := h
  refine am_Wbr (P := [am_rg (M 6 2), am_rg 1]) (c := ¬ (M 6 2) = 1) (t := 14) (f := 10) (st' := []) rfl rfl ⟨b0, (am_rgd rfl), trivial⟩ rfl (fun q => ?_) (fun q => ?_)
  · have h := ht q
    refine am_Wrun 1 (ps := []) (pc' := 15) (lv' := [(0, .inr (.inl (some 1)))]) (st' := [.inl (0)]) (M' := M) rfl trivial ?_
    exact am_Wretz rfl rfl (Or.inl rfl) h
  · have h := hf q
    refine am_Wrun 2 (ps := []) (pc' := 15) (lv' := [(0, .inr (.inl (some 1)))]) (st' := [.inl (1)]) (M' := M) rfl trivial ?_
    exact am_Wretz rfl rfl (Or.inr rfl) h
abbrev dt_X1_findMiss : am_D := (tk_X1_findMiss, 1, 7, some .boolean, tb_hn 15)
def wj_X1_findMiss_125 (Q : Int → am_M → Prop) (v1 : Int) (v3 : Int) (v5 : Int) (v6 : Int) (s0 : Int) (M : am_M) : Prop := (0 ≤ (v3 : Int) ∧ (v3 : Int) < 60) ∧ (0 ≤ (v1 : Int) ∧ (v1 : Int) < 60) ∧ (am_rg ((v6 * ((am_up M 9 2 s0) 9 2)) - (v5 * (((am_up M 9 2 s0) 2 v3) - ((am_up M 9 2 s0) 2 v1))))) ∧ (Q 1 (am_up (am_up M 9 2 s0) 9 1 (if 0 ≤ ((v6 * ((am_up M 9 2 s0) 9 2)) - (v5 * (((am_up M 9 2 s0) 2 v3) - ((am_up M 9 2 s0) 2 v1)))) then ((v6 * ((am_up M 9 2 s0) 9 2)) - (v5 * (((am_up M 9 2 s0) 2 v3) - ((am_up M 9 2 s0) 2 v1)))) else 0 - ((v6 * ((am_up M 9 2 s0) 9 2)) - (v5 * (((am_up M 9 2 s0) 2 v3) - ((am_up M 9 2 s0) 2 v1)))))))
def wj_X1_findMiss_73 (Q : Int → am_M → Prop) (v1 : Int) (v2 : Int) (v3 : Int) (v4 : Int) (s0 : Int) (M : am_M) : Prop := (0 ≤ (v3 : Int) ∧ (v3 : Int) < 60) ∧ (0 ≤ (v1 : Int) ∧ (v1 : Int) < 60) ∧ ((am_rg v4) ∧ (v4 = 0 → (0 ≤ (v2 : Int) ∧ (v2 : Int) < 60) ∧ (0 ≤ (v1 : Int) ∧ (v1 : Int) < 60) ∧ (wj_X1_findMiss_125 Q v1 v3 s0 ((M 3 v3) - (M 3 v1)) ((M 2 v2) - (M 2 v1)) M)) ∧ (¬ v4 = 0 → wj_X1_findMiss_125 Q v1 v3 s0 ((M 3 v3) - (M 3 v1)) 1 M))
def wp_X1_findMiss (a0 : Int) (a1 : Int) (a2 : Int) (M : am_M) (Q : Int → am_M → Prop) : Prop := wp_X2_sameStretch a0 a1 (am_up (am_up M 9 1 0) 9 2 1) (fun x1 M2 => (am_rg x1) ∧ (x1 = 0 → Q 0 M2) ∧ (¬ x1 = 0 → wp_X2_sameStretch a0 a2 M2 (fun x3 M4 => (am_rg x3) ∧ (¬ x3 = 0 → wp_X2_isStep M4 (fun x5 M6 => (am_rg x5) ∧ (x5 = 0 → (0 ≤ (a1 : Int) ∧ (a1 : Int) < 60) ∧ (0 ≤ (a0 : Int) ∧ (a0 : Int) < 60) ∧ (wj_X1_findMiss_73 Q a0 a1 a2 x5 ((M6 3 a1) - (M6 3 a0)) M6)) ∧ (¬ x5 = 0 → wj_X1_findMiss_73 Q a0 a1 a2 x5 0 M6))) ∧ (¬ (¬ x3 = 0) → Q 0 M4))))
set_option maxRecDepth 20000 in
theorem tj_X1_findMiss_125 {Q : Int → am_M → Prop} {QX : am_X} (v1 : Int) (v3 : Int) (v5 : Int) (v6 : Int) (s0 : Int) (M : am_M) (h : wj_X1_findMiss_125 Q v1 v3 v5 v6 s0 M) : am_W (am_CC 1) dt_X1_findMiss 1 0 none (am_QI Q) QX (0, 125, [(0, .inr (.inl (some 9))), (1, .inl (v1)), (3, .inl (v3)), (5, .inl (v5)), (6, .inl (v6))], [.inl (s0), .inr (.inl (some 9))], M) := by
  obtain ⟨c0_0, c1_0, c2_0, h⟩ := h
  refine am_Wrun 23 (ps := [0 ≤ (v3 : Int) ∧ (v3 : Int) < 60, 0 ≤ (v1 : Int) ∧ (v1 : Int) < 60, am_rg ((v6 * ((am_up M 9 2 s0) 9 2)) - (v5 * (((am_up M 9 2 s0) 2 v3) - ((am_up M 9 2 s0) 2 v1)))) ∧ am_cs [.inr (.inl (some 9))] ≤ 8]) (pc' := 166) (lv' := [(0, .inr (.inl (some 9))), (1, .inl (v1)), (3, .inl (v3)), (5, .inl (v5)), (6, .inl (v6))]) (st' := [.inl (1)]) (M' := (am_up (am_up M 9 2 s0) 9 1 (if 0 ≤ ((v6 * ((am_up M 9 2 s0) 9 2)) - (v5 * (((am_up M 9 2 s0) 2 v3) - ((am_up M 9 2 s0) 2 v1)))) then ((v6 * ((am_up M 9 2 s0) 9 2)) - (v5 * (((am_up M 9 2 s0) 2 v3) - ((am_up M 9 2 s0) 2 v1)))) else 0 - ((v6 * ((am_up M 9 2 s0) 9 2)) - (v5 * (((am_up M 9 2 s0) 2 v3) - ((am_up M 9 2 s0) 2 v1))))))) rfl ⟨c0_0, c1_0, ⟨c2_0, (by decide)⟩, trivial⟩ ?_
  exact am_Wretz rfl rfl (Or.inr rfl) h
set_option maxRecDepth 20000 in
theorem tj_X1_findMiss_73 {Q : Int → am_M → Prop} {QX : am_X} (v1 : Int) (v2 : Int) (v3 : Int) (v4 : Int) (s0 : Int) (M : am_M) (h : wj_X1_findMiss_73 Q v1 v2 v3 v4 s0 M) : am_W (am_CC 1) dt_X1_findMiss 1 0 none (am_QI Q) QX (0, 73, [(0, .inr (.inl (some 9))), (1, .inl (v1)), (2, .inl (v2)), (3, .inl (v3)), (4, .inl (v4))], [.inl (s0)], M) := by
  obtain ⟨c0_0, c1_0, h⟩ := h
  refine am_Wrun 15 (ps := [0 ≤ (v3 : Int) ∧ (v3 : Int) < 60, 0 ≤ (v1 : Int) ∧ (v1 : Int) < 60]) (pc' := 99) (lv' := [(6, .inl ((M 3 v3) - (M 3 v1))), (5, .inl (s0)), (0, .inr (.inl (some 9))), (1, .inl (v1)), (2, .inl (v2)), (3, .inl (v3)), (4, .inl (v4))]) (st' := [.inl (v4), .inr (.inl (some 9))]) (M' := M) rfl ⟨c0_0, c1_0, trivial⟩ ?_
  obtain ⟨b0, ht, hf⟩ := h
  refine am_Wbr (P := [am_rg v4]) (c := v4 = 0) (t := 106) (f := 102) (st' := [.inr (.inl (some 9))]) rfl rfl ⟨b0, trivial⟩ rfl (fun q => ?_) (fun q => ?_)
  · have h := ht q
    obtain ⟨c0_0, c1_0, h⟩ := h
    refine am_Wrun 11 (ps := [0 ≤ (v2 : Int) ∧ (v2 : Int) < 60, 0 ≤ (v1 : Int) ∧ (v1 : Int) < 60]) (pc' := 125) (lv' := [(6, .inl ((M 3 v3) - (M 3 v1))), (5, .inl (s0)), (0, .inr (.inl (some 9))), (1, .inl (v1)), (2, .inl (v2)), (3, .inl (v3)), (4, .inl (v4))]) (st' := [.inl ((M 2 v2) - (M 2 v1)), .inr (.inl (some 9))]) (M' := M) rfl ⟨c0_0, c1_0, trivial⟩ ?_
    refine am_W_sub [2, 3, 5, 1, 0] rfl ?_
    exact tj_X1_findMiss_125 v1 v3 s0 ((M 3 v3) - (M 3 v1)) ((M 2 v2) - (M 2 v1)) M h
  · have h := hf q
    refine am_Wrun 2 (ps := []) (pc' := 125) (lv' := [(6, .inl ((M 3 v3) - (M 3 v1))), (5, .inl (s0)), (0, .inr (.inl (some 9))), (1, .inl (v1)), (2, .inl (v2)), (3, .inl (v3)), (4, .inl (v4))]) (st' := [.inl (1), .inr (.inl (some 9))]) (M' := M) rfl trivial ?_
    refine am_W_sub [2, 3, 5, 1, 0] rfl ?_
    exact tj_X1_findMiss_125 v1 v3 s0 ((M 3 v3) - (M 3 v1)) 1 M h
set_option maxRecDepth 20000 in
theorem tm_X1_findMiss {a0 a1 a2 : Int} {M : am_M} {Q : Int → am_M → Prop} (h : wp_X1_findMiss a0 a1 a2 M Q) : am_CC 2 15 [.inr (.inl (some 9)), .inl (a0), .inl (a1), .inl (a2)] M (am_QI Q) (fun _ _ => False) := by
  refine ⟨Nat.le_of_ble_eq_true rfl, ?_⟩
  show am_W (am_CC 1) dt_X1_findMiss 1 0 none (am_QI Q) (am_qx 15 (fun _ _ => False)) (0, 0, [(0, .inr (.inl (some 9))), (1, .inl (a0)), (2, .inl (a1)), (3, .inl (a2))], [], M)
  refine am_Wrun 10 (ps := []) (pc' := 16) (lv' := [(0, .inr (.inl (some 9))), (1, .inl (a0)), (2, .inl (a1)), (3, .inl (a2))]) (st' := [.inl (a1), .inl (a0), .inr (.inl (some 1))]) (M' := (am_up (am_up M 9 1 0) 9 2 1)) rfl trivial ?_
  refine am_WcallV (y := 12) (n := 3) (a := 1) (f := 19) (as := [.inl (a0), .inl (a1)]) (st' := []) rfl rfl rfl rfl rfl rfl rfl rfl rfl rfl (Nat.zero_le _) rfl (am_CC_le (Nat.le_of_ble_eq_true rfl) (tm_X2_sameStretch h)) (fun r M2 q => ?_) (fun _ _ q => q.elim)
  obtain ⟨x1, rfl, h⟩ := q
  obtain ⟨b0, ht, hf⟩ := h
  refine am_Wbr (P := [am_rg x1]) (c := x1 = 0) (t := 34) (f := 22) (st' := []) rfl rfl ⟨b0, trivial⟩ rfl (fun q => ?_) (fun q => ?_)
  · have h := ht q
    refine am_Wrun 1 (ps := []) (pc' := 35) (lv' := [(0, .inr (.inl (some 9))), (1, .inl (a0)), (2, .inl (a1)), (3, .inl (a2))]) (st' := [.inl (0)]) (M' := M2) rfl trivial ?_
    exact am_Wretz rfl rfl (Or.inl rfl) h
  · have h := hf q
    refine am_Wrun 4 (ps := []) (pc' := 28) (lv' := [(0, .inr (.inl (some 9))), (1, .inl (a0)), (2, .inl (a1)), (3, .inl (a2))]) (st' := [.inl (a2), .inl (a0), .inr (.inl (some 1))]) (M' := M2) rfl trivial ?_
    refine am_WcallV (y := 12) (n := 3) (a := 1) (f := 31) (as := [.inl (a0), .inl (a2)]) (st' := []) rfl rfl rfl rfl rfl rfl rfl rfl rfl rfl (Nat.zero_le _) rfl (am_CC_le (Nat.le_of_ble_eq_true rfl) (tm_X2_sameStretch h)) (fun r M4 q => ?_) (fun _ _ q => q.elim)
    obtain ⟨x3, rfl, h⟩ := q
    obtain ⟨b0, ht, hf⟩ := h
    refine am_Wbr (P := [am_rg x3]) (c := ¬ x3 = 0) (t := 36) (f := 34) (st' := []) rfl rfl ⟨b0, trivial⟩ rfl (fun q => ?_) (fun q => ?_)
    · have h := ht q
      refine am_Wrun 2 (ps := []) (pc' := 40) (lv' := [(0, .inr (.inl (some 9))), (1, .inl (a0)), (2, .inl (a1)), (3, .inl (a2))]) (st' := [.inr (.inl (some 1))]) (M' := M4) rfl trivial ?_
      refine am_WcallV (y := 16) (n := 1) (a := 1) (f := 43) (as := []) (st' := []) rfl rfl rfl rfl rfl rfl rfl rfl rfl rfl (Nat.zero_le _) rfl (am_CC_le (Nat.le_of_ble_eq_true rfl) (tm_X2_isStep h)) (fun r M6 q => ?_) (fun _ _ q => q.elim)
      obtain ⟨x5, rfl, h⟩ := q
      refine am_Wrun 2 (ps := []) (pc' := 47) (lv' := [(4, .inl (x5)), (0, .inr (.inl (some 9))), (1, .inl (a0)), (2, .inl (a1)), (3, .inl (a2))]) (st' := [.inl (x5)]) (M' := M6) rfl trivial ?_
      obtain ⟨b0, ht, hf⟩ := h
      refine am_Wbr (P := [am_rg x5]) (c := x5 = 0) (t := 54) (f := 50) (st' := []) rfl rfl ⟨b0, trivial⟩ rfl (fun q => ?_) (fun q => ?_)
      · have h := ht q
        obtain ⟨c0_0, c1_0, h⟩ := h
        refine am_Wrun 11 (ps := [0 ≤ (a1 : Int) ∧ (a1 : Int) < 60, 0 ≤ (a0 : Int) ∧ (a0 : Int) < 60]) (pc' := 73) (lv' := [(4, .inl (x5)), (0, .inr (.inl (some 9))), (1, .inl (a0)), (2, .inl (a1)), (3, .inl (a2))]) (st' := [.inl ((M6 3 a1) - (M6 3 a0))]) (M' := M6) rfl ⟨c0_0, c1_0, trivial⟩ ?_
        refine am_W_sub [1, 2, 3, 4, 0] rfl ?_
        exact tj_X1_findMiss_73 a0 a1 a2 x5 ((M6 3 a1) - (M6 3 a0)) M6 h
      · have h := hf q
        refine am_Wrun 2 (ps := []) (pc' := 73) (lv' := [(4, .inl (x5)), (0, .inr (.inl (some 9))), (1, .inl (a0)), (2, .inl (a1)), (3, .inl (a2))]) (st' := [.inl (0)]) (M' := M6) rfl trivial ?_
        refine am_W_sub [1, 2, 3, 4, 0] rfl ?_
        exact tj_X1_findMiss_73 a0 a1 a2 x5 0 M6 h
    · have h := hf q
      refine am_Wrun 1 (ps := []) (pc' := 35) (lv' := [(0, .inr (.inl (some 9))), (1, .inl (a0)), (2, .inl (a1)), (3, .inl (a2))]) (st' := [.inl (0)]) (M' := M4) rfl trivial ?_
      exact am_Wretz rfl rfl (Or.inl rfl) h
abbrev dt_X1_isBroken : am_D := (tk_X1_isBroken, 1, 3, some .boolean, tb_hn 7)
def wp_X1_isBroken (a0 : Int) (M : am_M) (Q : Int → am_M → Prop) : Prop := wp_X2_isKept a0 M (fun x1 M2 => (am_rg x1) ∧ (x1 = 0 → wp_X2_earlierKept a0 M2 (fun x3 M4 => wp_X2_laterKept a0 M4 (fun x5 M6 => wp_X1_findMiss x3 x5 a0 M6 (fun x7 M8 => (am_rg x7) ∧ (x7 = 0 → Q 1 M8) ∧ (¬ x7 = 0 → (am_rg (M8 9 1)) ∧ (am_rg ((M8 6 0) * (M8 9 2))) ∧ ((M8 9 1) ≤ ((M8 6 0) * (M8 9 2)) → Q 0 M8) ∧ (¬ (M8 9 1) ≤ ((M8 6 0) * (M8 9 2)) → Q 1 M8)))))) ∧ (¬ x1 = 0 → Q 0 M2))
set_option maxRecDepth 20000 in
theorem tm_X1_isBroken {a0 : Int} {M : am_M} {Q : Int → am_M → Prop} (h : wp_X1_isBroken a0 M Q) : am_CC 3 7 [.inr (.inl (some 9)), .inl (a0)] M (am_QI Q) (fun _ _ => False) := by
  refine ⟨Nat.le_of_ble_eq_true rfl, ?_⟩
  show am_W (am_CC 2) dt_X1_isBroken 2 0 none (am_QI Q) (am_qx 7 (fun _ _ => False)) (0, 0, [(0, .inr (.inl (some 9))), (1, .inl (a0))], [], M)
  refine am_Wrun 3 (ps := []) (pc' := 5) (lv' := [(0, .inr (.inl (some 9))), (1, .inl (a0))]) (st' := [.inl (a0), .inr (.inl (some 1))]) (M' := M) rfl trivial ?_
  refine am_WcallV (y := 8) (n := 2) (a := 1) (f := 8) (as := [.inl (a0)]) (st' := []) rfl rfl rfl rfl rfl rfl rfl rfl rfl rfl (Nat.zero_le _) rfl (am_CC_le (Nat.le_of_ble_eq_true rfl) (tm_X2_isKept h)) (fun r M2 q => ?_) (fun _ _ q => q.elim)
  obtain ⟨x1, rfl, h⟩ := q
  obtain ⟨b0, ht, hf⟩ := h
  refine am_Wbr (P := [am_rg x1]) (c := x1 = 0) (t := 13) (f := 11) (st' := []) rfl rfl ⟨b0, trivial⟩ rfl (fun q => ?_) (fun q => ?_)
  · have h := ht q
    refine am_Wrun 4 (ps := []) (pc' := 19) (lv' := [(0, .inr (.inl (some 9))), (1, .inl (a0))]) (st' := [.inl (a0), .inr (.inl (some 1)), .inr (.inl (some 9))]) (M' := M2) rfl trivial ?_
    refine am_WcallV (y := 10) (n := 2) (a := 1) (f := 22) (as := [.inl (a0)]) (st' := [.inr (.inl (some 9))]) rfl rfl rfl rfl rfl rfl rfl rfl rfl rfl (Nat.zero_le _) rfl (am_CC_le (Nat.le_of_ble_eq_true rfl) (tm_X2_earlierKept h)) (fun r M4 q => ?_) (fun _ _ q => q.elim)
    obtain ⟨x3, rfl, h⟩ := q
    refine am_Wrun 3 (ps := []) (pc' := 27) (lv' := [(0, .inr (.inl (some 9))), (1, .inl (a0))]) (st' := [.inl (a0), .inr (.inl (some 1)), .inl (x3), .inr (.inl (some 9))]) (M' := M4) rfl trivial ?_
    refine am_WcallV (y := 13) (n := 2) (a := 1) (f := 30) (as := [.inl (a0)]) (st' := [.inl (x3), .inr (.inl (some 9))]) rfl rfl rfl rfl rfl rfl rfl rfl rfl rfl (Nat.zero_le _) rfl (am_CC_le (Nat.le_of_ble_eq_true rfl) (tm_X2_laterKept h)) (fun r M6 q => ?_) (fun _ _ q => q.elim)
    obtain ⟨x5, rfl, h⟩ := q
    refine am_Wrun 1 (ps := []) (pc' := 31) (lv' := [(0, .inr (.inl (some 9))), (1, .inl (a0))]) (st' := [.inl (a0), .inl (x5), .inl (x3), .inr (.inl (some 9))]) (M' := M6) rfl trivial ?_
    refine am_WcallV (y := 15) (n := 4) (a := 9) (f := 34) (as := [.inl (x3), .inl (x5), .inl (a0)]) (st' := []) rfl rfl rfl rfl rfl rfl rfl rfl rfl rfl (Nat.zero_le _) rfl (am_CC_le (Nat.le_of_ble_eq_true rfl) (tm_X1_findMiss h)) (fun r M8 q => ?_) (fun _ _ q => q.elim)
    obtain ⟨x7, rfl, h⟩ := q
    refine am_Wrun 2 (ps := []) (pc' := 36) (lv' := [(2, .inl (x7)), (0, .inr (.inl (some 9))), (1, .inl (a0))]) (st' := [.inl (x7)]) (M' := M8) rfl trivial ?_
    obtain ⟨b0, ht, hf⟩ := h
    refine am_Wbr (P := [am_rg x7]) (c := x7 = 0) (t := 60) (f := 39) (st' := []) rfl rfl ⟨b0, trivial⟩ rfl (fun q => ?_) (fun q => ?_)
    · have h := ht q
      refine am_Wrun 2 (ps := []) (pc' := 65) (lv' := [(2, .inl (x7)), (0, .inr (.inl (some 9))), (1, .inl (a0))]) (st' := [.inl (1)]) (M' := M8) rfl trivial ?_
      exact am_Wretz rfl rfl (Or.inr rfl) h
    · have h := hf q
      refine am_Wrun 10 (ps := [0 ≤ (0 : Int) ∧ (0 : Int) < 3]) (pc' := 57) (lv' := [(2, .inl (x7)), (0, .inr (.inl (some 9))), (1, .inl (a0))]) (st' := [.inl ((M8 6 0) * (M8 9 2)), .inl (M8 9 1)]) (M' := M8) rfl ⟨⟨by decide, by decide⟩, trivial⟩ ?_
      obtain ⟨b0, b1, ht, hf⟩ := h
      refine am_Wbr (P := [am_rg (M8 9 1), am_rg ((M8 6 0) * (M8 9 2))]) (c := (M8 9 1) ≤ ((M8 6 0) * (M8 9 2))) (t := 64) (f := 60) (st' := []) rfl rfl ⟨b0, b1, trivial⟩ rfl (fun q => ?_) (fun q => ?_)
      · have h := ht q
        refine am_Wrun 1 (ps := []) (pc' := 65) (lv' := [(2, .inl (x7)), (0, .inr (.inl (some 9))), (1, .inl (a0))]) (st' := [.inl (0)]) (M' := M8) rfl trivial ?_
        exact am_Wretz rfl rfl (Or.inl rfl) h
      · have h := hf q
        refine am_Wrun 2 (ps := []) (pc' := 65) (lv' := [(2, .inl (x7)), (0, .inr (.inl (some 9))), (1, .inl (a0))]) (st' := [.inl (1)]) (M' := M8) rfl trivial ?_
        exact am_Wretz rfl rfl (Or.inr rfl) h
  · have h := hf q
    refine am_Wrun 1 (ps := []) (pc' := 12) (lv' := [(0, .inr (.inl (some 9))), (1, .inl (a0))]) (st' := [.inl (0)]) (M' := M2) rfl trivial ?_
    exact am_Wretz rfl rfl (Or.inl rfl) h
abbrev dt_X5_brokenAmong : am_D := (tk_X5_brokenAmong, 5, 5, some .int, tb_hn 49)
def wl_X5_brokenAmong_5 (Q : Int → am_M → Prop) : Nat → Int → Int → Int → Int → am_M → Prop
  | 0, _, _, _, _, _ => False
  | n + 1, v1, v2, v3, v4, M => (am_rg v4) ∧ (am_rg v2) ∧ (v2 ≤ v4 → Q v3 M) ∧ (¬ v2 ≤ v4 → wp_X1_isBroken (v1 + v4) M (fun x1 M2 => (am_rg x1) ∧ (x1 = 0 → wl_X5_brokenAmong_5 Q n v1 v2 v3 (v4 + 1) M2) ∧ (¬ x1 = 0 → wl_X5_brokenAmong_5 Q n v1 v2 (v3 + 1) (v4 + 1) M2)))
def wp_X5_brokenAmong (a0 : Int) (a1 : Int) (M : am_M) (Q : Int → am_M → Prop) : Prop := ∃ e5, wl_X5_brokenAmong_5 Q e5 a0 a1 0 0 M
set_option maxRecDepth 20000 in
theorem tw_X5_brokenAmong_5 {Q : Int → am_M → Prop} {QX : am_X} : ∀ (n : Nat) (v1 : Int) (v2 : Int) (v3 : Int) (v4 : Int) (M : am_M), wl_X5_brokenAmong_5 Q n v1 v2 v3 v4 M → am_W (am_CC 3) dt_X5_brokenAmong 3 0 none (am_QI Q) QX (0, 5, [(0, .inr (.inl (some 0))), (1, .inl (v1)), (2, .inl (v2)), (3, .inl (v3)), (4, .inl (v4))], [], M)
  | 0, _, _, _, _, _, h => h.elim
  | n + 1, v1, v2, v3, v4, M, h => by
    refine am_Wrun 2 (ps := []) (pc' := 8) (lv' := [(0, .inr (.inl (some 0))), (1, .inl (v1)), (2, .inl (v2)), (3, .inl (v3)), (4, .inl (v4))]) (st' := [.inl (v2), .inl (v4)]) (M' := M) rfl trivial ?_
    obtain ⟨b0, b1, ht, hf⟩ := h
    refine am_Wbr (P := [am_rg v4, am_rg v2]) (c := v2 ≤ v4) (t := 34) (f := 11) (st' := []) rfl rfl ⟨b0, b1, trivial⟩ rfl (fun q => ?_) (fun q => ?_)
    · have h := ht q
      refine am_Wrun 1 (ps := []) (pc' := 35) (lv' := [(0, .inr (.inl (some 0))), (1, .inl (v1)), (2, .inl (v2)), (3, .inl (v3)), (4, .inl (v4))]) (st' := [.inl (v3)]) (M' := M) rfl trivial ?_
      exact am_Wreti rfl rfl h
    · have h := hf q
      refine am_Wrun 5 (ps := []) (pc' := 19) (lv' := [(0, .inr (.inl (some 0))), (1, .inl (v1)), (2, .inl (v2)), (3, .inl (v3)), (4, .inl (v4))]) (st' := [.inl (v1 + v4), .inr (.inl (some 9))]) (M' := M) rfl trivial ?_
      refine am_WcallV (y := 7) (n := 2) (a := 9) (f := 22) (as := [.inl (v1 + v4)]) (st' := []) rfl rfl rfl rfl rfl rfl rfl rfl rfl rfl (Nat.zero_le _) rfl (am_CC_le (Nat.le_of_ble_eq_true rfl) (tm_X1_isBroken h)) (fun r M2 q => ?_) (fun _ _ q => q.elim)
      obtain ⟨x1, rfl, h⟩ := q
      obtain ⟨b0, ht, hf⟩ := h
      refine am_Wbr (P := [am_rg x1]) (c := x1 = 0) (t := 28) (f := 25) (st' := []) rfl rfl ⟨b0, trivial⟩ rfl (fun q => ?_) (fun q => ?_)
      · have h := ht q
        refine am_Wrun 2 (ps := []) (pc' := 5) (lv' := [(4, .inl (v4 + 1)), (0, .inr (.inl (some 0))), (1, .inl (v1)), (2, .inl (v2)), (3, .inl (v3))]) (st' := []) (M' := M2) rfl trivial ?_
        refine am_W_sub [1, 2, 3, 4, 0] rfl ?_
        exact tw_X5_brokenAmong_5 n v1 v2 v3 (v4 + 1) M2 h
      · have h := hf q
        refine am_Wrun 3 (ps := []) (pc' := 5) (lv' := [(4, .inl (v4 + 1)), (3, .inl (v3 + 1)), (0, .inr (.inl (some 0))), (1, .inl (v1)), (2, .inl (v2))]) (st' := []) (M' := M2) rfl trivial ?_
        refine am_W_sub [2, 3, 4, 1, 0] rfl ?_
        exact tw_X5_brokenAmong_5 n v1 v2 (v3 + 1) (v4 + 1) M2 h
set_option maxRecDepth 20000 in
theorem tm_X5_brokenAmong {a0 a1 : Int} {M : am_M} {Q : Int → am_M → Prop} (h : wp_X5_brokenAmong a0 a1 M Q) : am_CC 4 49 [.inr (.inl (some 0)), .inl (a0), .inl (a1)] M (am_QI Q) (fun _ _ => False) := by
  refine ⟨Nat.le_of_ble_eq_true rfl, ?_⟩
  show am_W (am_CC 3) dt_X5_brokenAmong 3 0 none (am_QI Q) (am_qx 49 (fun _ _ => False)) (0, 0, [(0, .inr (.inl (some 0))), (1, .inl (a0)), (2, .inl (a1))], [], M)
  refine am_Wrun 4 (ps := []) (pc' := 5) (lv' := [(4, .inl (0)), (3, .inl (0)), (0, .inr (.inl (some 0))), (1, .inl (a0)), (2, .inl (a1))]) (st' := []) (M' := M) rfl trivial ?_
  refine am_W_sub [2, 3, 4, 1, 0] rfl ?_
  obtain ⟨n5, h⟩ := h
  exact tw_X5_brokenAmong_5 n5 a0 a1 0 0 M h
abbrev dt_X2_stretchCount : am_D := (tk_X2_stretchCount, 2, 1, some .int, tb_hn 34)
def wp_X2_stretchCount (M : am_M) (Q : Int → am_M → Prop) : Prop := wp_X2_hasPoint ((M 1 7) - 1) M (fun x1 M2 => (am_rg x1) ∧ (x1 = 0 → Q 0 M2) ∧ (¬ x1 = 0 → (0 ≤ ((M2 1 7) - 1 : Int) ∧ ((M2 1 7) - 1 : Int) < 60) ∧ (Q ((M2 5 ((M2 1 7) - 1)) + 1) M2)))
set_option maxRecDepth 20000 in
theorem tm_X2_stretchCount {M : am_M} {Q : Int → am_M → Prop} (h : wp_X2_stretchCount M Q) : am_CC 2 34 [.inr (.inl (some 1))] M (am_QI Q) (fun _ _ => False) := by
  refine ⟨Nat.le_of_ble_eq_true rfl, ?_⟩
  show am_W (am_CC 1) dt_X2_stretchCount 1 0 none (am_QI Q) (am_qx 34 (fun _ _ => False)) (0, 0, [(0, .inr (.inl (some 1)))], [], M)
  refine am_Wrun 5 (ps := []) (pc' := 7) (lv' := [(0, .inr (.inl (some 1)))]) (st' := [.inl ((M 1 7) - 1), .inr (.inl (some 1))]) (M' := M) rfl trivial ?_
  refine am_WcallV (y := 9) (n := 2) (a := 1) (f := 10) (as := [.inl ((M 1 7) - 1)]) (st' := []) rfl rfl rfl rfl rfl rfl rfl rfl rfl rfl (Nat.zero_le _) rfl (am_CC_le (Nat.le_of_ble_eq_true rfl) (tm_X2_hasPoint h)) (fun r M2 q => ?_) (fun _ _ q => q.elim)
  obtain ⟨x1, rfl, h⟩ := q
  obtain ⟨b0, ht, hf⟩ := h
  refine am_Wbr (P := [am_rg x1]) (c := x1 = 0) (t := 29) (f := 13) (st' := []) rfl rfl ⟨b0, trivial⟩ rfl (fun q => ?_) (fun q => ?_)
  · have h := ht q
    refine am_Wrun 1 (ps := []) (pc' := 30) (lv' := [(0, .inr (.inl (some 1)))]) (st' := [.inl (0)]) (M' := M2) rfl trivial ?_
    exact am_Wreti rfl rfl h
  · have h := hf q
    obtain ⟨c0_0, h⟩ := h
    refine am_Wrun 10 (ps := [0 ≤ ((M2 1 7) - 1 : Int) ∧ ((M2 1 7) - 1 : Int) < 60]) (pc' := 30) (lv' := [(0, .inr (.inl (some 1)))]) (st' := [.inl ((M2 5 ((M2 1 7) - 1)) + 1)]) (M' := M2) rfl ⟨c0_0, trivial⟩ ?_
    exact am_Wreti rfl rfl h
abbrev dt_X2_placeOf : am_D := (tk_X2_placeOf, 2, 3, some .int, tb_hn 55)
def wl_X2_placeOf_2 (Q : Int → am_M → Prop) : Nat → Int → Int → am_M → Prop
  | 0, _, _, _ => False
  | n + 1, v1, v2, M => (am_rg v2) ∧ (am_rg (M 1 7)) ∧ ((M 1 7) ≤ v2 → Q (M 1 7) M) ∧ (¬ (M 1 7) ≤ v2 → (0 ≤ (v2 : Int) ∧ (v2 : Int) < 60) ∧ ((am_rg (M 2 v2)) ∧ (am_rg v1) ∧ ((M 2 v2) < v1 → wl_X2_placeOf_2 Q n v1 (v2 + 1) M) ∧ (¬ (M 2 v2) < v1 → Q v2 M)))
def wp_X2_placeOf (a0 : Int) (M : am_M) (Q : Int → am_M → Prop) : Prop := ∃ e2, wl_X2_placeOf_2 Q e2 a0 0 M
set_option maxRecDepth 20000 in
theorem tw_X2_placeOf_2 {Q : Int → am_M → Prop} {QX : am_X} : ∀ (n : Nat) (v1 : Int) (v2 : Int) (M : am_M), wl_X2_placeOf_2 Q n v1 v2 M → am_W (am_CC 0) dt_X2_placeOf 0 0 none (am_QI Q) QX (0, 2, [(0, .inr (.inl (some 1))), (1, .inl (v1)), (2, .inl (v2))], [], M)
  | 0, _, _, _, h => h.elim
  | n + 1, v1, v2, M, h => by
    refine am_Wrun 3 (ps := []) (pc' := 7) (lv' := [(0, .inr (.inl (some 1))), (1, .inl (v1)), (2, .inl (v2))]) (st' := [.inl (M 1 7), .inl (v2)]) (M' := M) rfl trivial ?_
    obtain ⟨b0, b1, ht, hf⟩ := h
    refine am_Wbr (P := [am_rg v2, am_rg (M 1 7)]) (c := (M 1 7) ≤ v2) (t := 28) (f := 10) (st' := []) rfl rfl ⟨b0, b1, trivial⟩ rfl (fun q => ?_) (fun q => ?_)
    · have h := ht q
      refine am_Wrun 2 (ps := []) (pc' := 32) (lv' := [(0, .inr (.inl (some 1))), (1, .inl (v1)), (2, .inl (v2))]) (st' := [.inl (M 1 7)]) (M' := M) rfl trivial ?_
      exact am_Wreti rfl rfl h
    · have h := hf q
      obtain ⟨c0_0, h⟩ := h
      refine am_Wrun 5 (ps := [0 ≤ (v2 : Int) ∧ (v2 : Int) < 60]) (pc' := 17) (lv' := [(0, .inr (.inl (some 1))), (1, .inl (v1)), (2, .inl (v2))]) (st' := [.inl (v1), .inl (M 2 v2)]) (M' := M) rfl ⟨c0_0, trivial⟩ ?_
      obtain ⟨b0, b1, ht, hf⟩ := h
      refine am_Wbr (P := [am_rg (M 2 v2), am_rg v1]) (c := (M 2 v2) < v1) (t := 22) (f := 20) (st' := []) rfl rfl ⟨b0, b1, trivial⟩ rfl (fun q => ?_) (fun q => ?_)
      · have h := ht q
        refine am_Wrun 2 (ps := []) (pc' := 2) (lv' := [(2, .inl (v2 + 1)), (0, .inr (.inl (some 1))), (1, .inl (v1))]) (st' := []) (M' := M) rfl trivial ?_
        refine am_W_sub [1, 2, 0] rfl ?_
        exact tw_X2_placeOf_2 n v1 (v2 + 1) M h
      · have h := hf q
        refine am_Wrun 1 (ps := []) (pc' := 21) (lv' := [(0, .inr (.inl (some 1))), (1, .inl (v1)), (2, .inl (v2))]) (st' := [.inl (v2)]) (M' := M) rfl trivial ?_
        exact am_Wreti rfl rfl h
set_option maxRecDepth 20000 in
theorem tm_X2_placeOf {a0 : Int} {M : am_M} {Q : Int → am_M → Prop} (h : wp_X2_placeOf a0 M Q) : am_CC 1 55 [.inr (.inl (some 1)), .inl (a0)] M (am_QI Q) (fun _ _ => False) := by
  refine ⟨Nat.le_of_ble_eq_true rfl, ?_⟩
  show am_W (am_CC 0) dt_X2_placeOf 0 0 none (am_QI Q) (am_qx 55 (fun _ _ => False)) (0, 0, [(0, .inr (.inl (some 1))), (1, .inl (a0))], [], M)
  refine am_Wrun 2 (ps := []) (pc' := 2) (lv' := [(2, .inl (0)), (0, .inr (.inl (some 1))), (1, .inl (a0))]) (st' := []) (M' := M) rfl trivial ?_
  refine am_W_sub [1, 2, 0] rfl ?_
  obtain ⟨n2, h⟩ := h
  exact tw_X2_placeOf_2 n2 a0 0 M h
abbrev dt_X1_commonDivisor : am_D := (tk_X1_commonDivisor, 1, 6, some .int, tb_hn 57)
def wl_X1_commonDivisor_7 (Q : Int → am_M → Prop) : Nat → Int → Int → Int → am_M → Prop
  | 0, _, _, _, _ => False
  | n + 1, v2, v3, v4, M => (am_rg v4) ∧ (50 ≤ v4 → Q v2 M) ∧ (¬ 50 ≤ v4 → (am_rg v3) ∧ (v3 = 0 → Q v2 M) ∧ (¬ v3 = 0 → (am_rg v2 ∧ am_rg v3 ∧ (0 : Int) < v3) ∧ (wl_X1_commonDivisor_7 Q n v3 (Int.tmod v2 v3) (v4 + 1) M)))
def wp_X1_commonDivisor (a0 : Int) (a1 : Int) (M : am_M) (Q : Int → am_M → Prop) : Prop := ∃ e7, wl_X1_commonDivisor_7 Q e7 a0 a1 0 M
set_option maxRecDepth 20000 in
theorem tw_X1_commonDivisor_7 {Q : Int → am_M → Prop} {QX : am_X} : ∀ (n : Nat) (v2 : Int) (v3 : Int) (v4 : Int) (M : am_M), wl_X1_commonDivisor_7 Q n v2 v3 v4 M → am_W (am_CC 0) dt_X1_commonDivisor 0 0 none (am_QI Q) QX (0, 7, [(2, .inl (v2)), (3, .inl (v3)), (4, .inl (v4))], [], M)
  | 0, _, _, _, _, h => h.elim
  | n + 1, v2, v3, v4, M, h => by
    refine am_Wrun 2 (ps := [-128 ≤ (50 : Int) ∧ (50 : Int) ≤ 127]) (pc' := 11) (lv' := [(2, .inl (v2)), (3, .inl (v3)), (4, .inl (v4))]) (st' := [.inl (50), .inl (v4)]) (M' := M) rfl ⟨⟨by decide, by decide⟩, trivial⟩ ?_
    obtain ⟨b0, ht, hf⟩ := h
    refine am_Wbr (P := [am_rg v4, am_rg 50]) (c := 50 ≤ v4) (t := 34) (f := 14) (st' := []) rfl rfl ⟨b0, (am_rgd rfl), trivial⟩ rfl (fun q => ?_) (fun q => ?_)
    · have h := ht q
      refine am_Wrun 1 (ps := []) (pc' := 35) (lv' := [(2, .inl (v2)), (3, .inl (v3)), (4, .inl (v4))]) (st' := [.inl (v2)]) (M' := M) rfl trivial ?_
      exact am_Wreti rfl rfl h
    · have h := hf q
      refine am_Wrun 1 (ps := []) (pc' := 15) (lv' := [(2, .inl (v2)), (3, .inl (v3)), (4, .inl (v4))]) (st' := [.inl (v3)]) (M' := M) rfl trivial ?_
      obtain ⟨b0, ht, hf⟩ := h
      refine am_Wbr (P := [am_rg v3]) (c := v3 = 0) (t := 34) (f := 18) (st' := []) rfl rfl ⟨b0, trivial⟩ rfl (fun q => ?_) (fun q => ?_)
      · have h := ht q
        refine am_Wrun 1 (ps := []) (pc' := 35) (lv' := [(2, .inl (v2)), (3, .inl (v3)), (4, .inl (v4))]) (st' := [.inl (v2)]) (M' := M) rfl trivial ?_
        exact am_Wreti rfl rfl h
      · have h := hf q
        obtain ⟨c0_0, h⟩ := h
        refine am_Wrun 10 (ps := [am_rg v2 ∧ am_rg v3 ∧ (0 : Int) < v3]) (pc' := 7) (lv' := [(4, .inl (v4 + 1)), (3, .inl (Int.tmod v2 v3)), (2, .inl (v3)), (5, .inl (Int.tmod v2 v3))]) (st' := []) (M' := M) rfl ⟨c0_0, trivial⟩ ?_
        refine am_W_sub [2, 1, 0] rfl ?_
        exact tw_X1_commonDivisor_7 n v3 (Int.tmod v2 v3) (v4 + 1) M h
set_option maxRecDepth 20000 in
theorem tm_X1_commonDivisor {a0 a1 : Int} {M : am_M} {Q : Int → am_M → Prop} (h : wp_X1_commonDivisor a0 a1 M Q) : am_CC 1 57 [.inl (a0), .inl (a1)] M (am_QI Q) (fun _ _ => False) := by
  refine ⟨Nat.le_of_ble_eq_true rfl, ?_⟩
  show am_W (am_CC 0) dt_X1_commonDivisor 0 0 none (am_QI Q) (am_qx 57 (fun _ _ => False)) (0, 0, [(0, .inl (a0)), (1, .inl (a1))], [], M)
  refine am_Wrun 6 (ps := []) (pc' := 7) (lv' := [(4, .inl (0)), (3, .inl (a1)), (2, .inl (a0)), (0, .inl (a0)), (1, .inl (a1))]) (st' := []) (M' := M) rfl trivial ?_
  refine am_W_sub [2, 1, 0] rfl ?_
  obtain ⟨n7, h⟩ := h
  exact tw_X1_commonDivisor_7 n7 a0 a1 0 M h
abbrev dt_X1_shorten : am_D := (tk_X1_shorten, 1, 2, none, tb_hn 56)
def wp_X1_shorten (M : am_M) (Q : am_M → Prop) : Prop := (am_rg (M 9 1)) ∧ (wp_X1_commonDivisor (if 0 ≤ (M 9 1) then (M 9 1) else 0 - (M 9 1)) (M 9 2) M (fun x1 M2 => (am_rg x1) ∧ (x1 ≤ 0 → Q M2) ∧ (¬ x1 ≤ 0 → (am_rg (M2 9 1) ∧ am_rg x1 ∧ (0 : Int) < x1) ∧ (am_rg ((am_up M2 9 1 (Int.tdiv (M2 9 1) x1)) 9 2) ∧ am_rg x1 ∧ (0 : Int) < x1) ∧ (Q (am_up (am_up M2 9 1 (Int.tdiv (M2 9 1) x1)) 9 2 (Int.tdiv ((am_up M2 9 1 (Int.tdiv (M2 9 1) x1)) 9 2) x1))))))
set_option maxRecDepth 20000 in
theorem tm_X1_shorten {M : am_M} {Q : am_M → Prop} (h : wp_X1_shorten M Q) : am_CC 2 56 [.inr (.inl (some 9))] M (am_QV Q) (fun _ _ => False) := by
  refine ⟨Nat.le_of_ble_eq_true rfl, ?_⟩
  show am_W (am_CC 1) dt_X1_shorten 1 0 none (am_QV Q) (am_qx 56 (fun _ _ => False)) (0, 0, [(0, .inr (.inl (some 9)))], [], M)
  obtain ⟨c0_0, h⟩ := h
  refine am_Wrun 5 (ps := [am_rg (M 9 1) ∧ am_cs [] ≤ 8]) (pc' := 11) (lv' := [(0, .inr (.inl (some 9)))]) (st' := [.inl (M 9 2), .inl (if 0 ≤ (M 9 1) then (M 9 1) else 0 - (M 9 1))]) (M' := M) rfl ⟨⟨c0_0, (by decide)⟩, trivial⟩ ?_
  refine am_WcallS (y := 57) (n := 2) (f := 14) (co := 0) (as := [.inl (if 0 ≤ (M 9 1) then (M 9 1) else 0 - (M 9 1)), .inl (M 9 2)]) (st' := []) rfl rfl rfl rfl rfl rfl rfl rfl rfl (Nat.zero_le _) rfl (am_CC_le (Nat.le_of_ble_eq_true rfl) (tm_X1_commonDivisor h)) (fun r M2 q => ?_) (fun _ _ q => q.elim)
  obtain ⟨x1, rfl, h⟩ := q
  refine am_Wrun 2 (ps := []) (pc' := 16) (lv' := [(1, .inl (x1)), (0, .inr (.inl (some 9)))]) (st' := [.inl (x1)]) (M' := M2) rfl trivial ?_
  obtain ⟨b0, ht, hf⟩ := h
  refine am_Wbr (P := [am_rg x1]) (c := x1 ≤ 0) (t := 39) (f := 19) (st' := []) rfl rfl ⟨b0, trivial⟩ rfl (fun q => ?_) (fun q => ?_)
  · have h := ht q
    exact am_Wretv rfl rfl h
  · have h := hf q
    obtain ⟨c0_0, c1_0, h⟩ := h
    refine am_Wrun 12 (ps := [am_rg (M2 9 1) ∧ am_rg x1 ∧ (0 : Int) < x1, am_rg ((am_up M2 9 1 (Int.tdiv (M2 9 1) x1)) 9 2) ∧ am_rg x1 ∧ (0 : Int) < x1]) (pc' := 39) (lv' := [(1, .inl (x1)), (0, .inr (.inl (some 9)))]) (st' := []) (M' := (am_up (am_up M2 9 1 (Int.tdiv (M2 9 1) x1)) 9 2 (Int.tdiv ((am_up M2 9 1 (Int.tdiv (M2 9 1) x1)) 9 2) x1))) rfl ⟨c0_0, c1_0, trivial⟩ ?_
    exact am_Wretv rfl rfl h
abbrev dt_X1_findReading : am_D := (tk_X1_findReading, 1, 7, some .boolean, tb_hn 54)
def wj_X1_findReading_157 (Q : Int → am_M → Prop) (v1 : Int) (v3 : Int) (v6 : Int) (s0 : Int) (M : am_M) : Prop := (0 ≤ (v3 : Int) ∧ (v3 : Int) < 60) ∧ (0 ≤ (v3 : Int) ∧ (v3 : Int) < 60) ∧ (wp_X1_shorten (am_up (am_up M 9 2 s0) 9 1 ((((am_up M 9 2 s0) 3 v3) * ((am_up M 9 2 s0) 9 2)) + (v6 * (v1 - ((am_up M 9 2 s0) 2 v3))))) (fun M13 => Q 1 M13))
def wj_X1_findReading_125 (Q : Int → am_M → Prop) (v1 : Int) (v3 : Int) (v4 : Int) (v5 : Int) (s0 : Int) (M : am_M) : Prop := (am_rg v5) ∧ (v5 = 0 → (0 ≤ (v4 : Int) ∧ (v4 : Int) < 60) ∧ (0 ≤ (v3 : Int) ∧ (v3 : Int) < 60) ∧ (wj_X1_findReading_157 Q v1 v3 s0 ((M 2 v4) - (M 2 v3)) M)) ∧ (¬ v5 = 0 → wj_X1_findReading_157 Q v1 v3 s0 1 M)
def wj_X1_findReading_53 (Q : Int → am_M → Prop) (v1 : Int) (v2 : Int) (M : am_M) : Prop := wp_X2_keptBelow v2 M (fun x5 M6 => wp_X2_keptFrom v2 M6 (fun x7 M8 => wp_X2_sameStretch x5 x7 M8 (fun x9 M10 => (am_rg x9) ∧ (¬ x9 = 0 → wp_X2_isStep M10 (fun x11 M12 => (am_rg x11) ∧ (x11 = 0 → (0 ≤ (x7 : Int) ∧ (x7 : Int) < 60) ∧ (0 ≤ (x5 : Int) ∧ (x5 : Int) < 60) ∧ (wj_X1_findReading_125 Q v1 x5 x7 x11 ((M12 3 x7) - (M12 3 x5)) M12)) ∧ (¬ x11 = 0 → wj_X1_findReading_125 Q v1 x5 x7 x11 0 M12))) ∧ (¬ (¬ x9 = 0) → Q 0 M10))))
def wp_X1_findReading (a0 : Int) (M : am_M) (Q : Int → am_M → Prop) : Prop := wp_X2_placeOf a0 M (fun x1 M2 => wp_X2_isKept x1 M2 (fun x3 M4 => (am_rg x3) ∧ (x3 = 0 → wj_X1_findReading_53 Q a0 x1 M4) ∧ (¬ x3 = 0 → (0 ≤ (x1 : Int) ∧ (x1 : Int) < 60) ∧ ((am_rg (M4 2 x1)) ∧ (am_rg a0) ∧ (¬ (M4 2 x1) = a0 → wj_X1_findReading_53 Q a0 x1 M4) ∧ (¬ (¬ (M4 2 x1) = a0) → (0 ≤ (x1 : Int) ∧ (x1 : Int) < 60) ∧ (Q 1 (am_up (am_up M4 9 1 (M4 3 x1)) 9 2 1)))))))
set_option maxRecDepth 20000 in
theorem tj_X1_findReading_157 {Q : Int → am_M → Prop} {QX : am_X} (v1 : Int) (v3 : Int) (v6 : Int) (s0 : Int) (M : am_M) (h : wj_X1_findReading_157 Q v1 v3 v6 s0 M) : am_W (am_CC 2) dt_X1_findReading 2 0 none (am_QI Q) QX (0, 157, [(0, .inr (.inl (some 9))), (1, .inl (v1)), (3, .inl (v3)), (6, .inl (v6))], [.inl (s0), .inr (.inl (some 9))], M) := by
  obtain ⟨c0_0, c1_0, h⟩ := h
  refine am_Wrun 22 (ps := [0 ≤ (v3 : Int) ∧ (v3 : Int) < 60, 0 ≤ (v3 : Int) ∧ (v3 : Int) < 60]) (pc' := 194) (lv' := [(0, .inr (.inl (some 9))), (1, .inl (v1)), (3, .inl (v3)), (6, .inl (v6))]) (st' := [.inr (.inl (some 9))]) (M' := (am_up (am_up M 9 2 s0) 9 1 ((((am_up M 9 2 s0) 3 v3) * ((am_up M 9 2 s0) 9 2)) + (v6 * (v1 - ((am_up M 9 2 s0) 2 v3)))))) rfl ⟨c0_0, c1_0, trivial⟩ ?_
  refine am_WcallV (y := 56) (n := 1) (a := 9) (f := 197) (as := []) (st' := []) rfl rfl rfl rfl rfl rfl rfl rfl rfl rfl (Nat.zero_le _) rfl (am_CC_le (Nat.le_of_ble_eq_true rfl) (tm_X1_shorten h)) (fun r M13 q => ?_) (fun _ _ q => q.elim)
  obtain ⟨rfl, h⟩ := q
  refine am_Wrun 1 (ps := []) (pc' := 198) (lv' := [(0, .inr (.inl (some 9))), (1, .inl (v1)), (3, .inl (v3)), (6, .inl (v6))]) (st' := [.inl (1)]) (M' := M13) rfl trivial ?_
  exact am_Wretz rfl rfl (Or.inr rfl) h
set_option maxRecDepth 20000 in
theorem tj_X1_findReading_125 {Q : Int → am_M → Prop} {QX : am_X} (v1 : Int) (v3 : Int) (v4 : Int) (v5 : Int) (s0 : Int) (M : am_M) (h : wj_X1_findReading_125 Q v1 v3 v4 v5 s0 M) : am_W (am_CC 2) dt_X1_findReading 2 0 none (am_QI Q) QX (0, 125, [(0, .inr (.inl (some 9))), (1, .inl (v1)), (3, .inl (v3)), (4, .inl (v4)), (5, .inl (v5))], [.inl (s0)], M) := by
  refine am_Wrun 3 (ps := []) (pc' := 130) (lv' := [(6, .inl (s0)), (0, .inr (.inl (some 9))), (1, .inl (v1)), (3, .inl (v3)), (4, .inl (v4)), (5, .inl (v5))]) (st' := [.inl (v5), .inr (.inl (some 9))]) (M' := M) rfl trivial ?_
  obtain ⟨b0, ht, hf⟩ := h
  refine am_Wbr (P := [am_rg v5]) (c := v5 = 0) (t := 137) (f := 133) (st' := [.inr (.inl (some 9))]) rfl rfl ⟨b0, trivial⟩ rfl (fun q => ?_) (fun q => ?_)
  · have h := ht q
    obtain ⟨c0_0, c1_0, h⟩ := h
    refine am_Wrun 11 (ps := [0 ≤ (v4 : Int) ∧ (v4 : Int) < 60, 0 ≤ (v3 : Int) ∧ (v3 : Int) < 60]) (pc' := 157) (lv' := [(6, .inl (s0)), (0, .inr (.inl (some 9))), (1, .inl (v1)), (3, .inl (v3)), (4, .inl (v4)), (5, .inl (v5))]) (st' := [.inl ((M 2 v4) - (M 2 v3)), .inr (.inl (some 9))]) (M' := M) rfl ⟨c0_0, c1_0, trivial⟩ ?_
    refine am_W_sub [1, 2, 3, 0] rfl ?_
    exact tj_X1_findReading_157 v1 v3 s0 ((M 2 v4) - (M 2 v3)) M h
  · have h := hf q
    refine am_Wrun 2 (ps := []) (pc' := 157) (lv' := [(6, .inl (s0)), (0, .inr (.inl (some 9))), (1, .inl (v1)), (3, .inl (v3)), (4, .inl (v4)), (5, .inl (v5))]) (st' := [.inl (1), .inr (.inl (some 9))]) (M' := M) rfl trivial ?_
    refine am_W_sub [1, 2, 3, 0] rfl ?_
    exact tj_X1_findReading_157 v1 v3 s0 1 M h
set_option maxRecDepth 20000 in
theorem tj_X1_findReading_53 {Q : Int → am_M → Prop} {QX : am_X} (v1 : Int) (v2 : Int) (M : am_M) (h : wj_X1_findReading_53 Q v1 v2 M) : am_W (am_CC 2) dt_X1_findReading 2 0 none (am_QI Q) QX (0, 53, [(0, .inr (.inl (some 9))), (1, .inl (v1)), (2, .inl (v2))], [], M) := by
  refine am_Wrun 3 (ps := []) (pc' := 58) (lv' := [(0, .inr (.inl (some 9))), (1, .inl (v1)), (2, .inl (v2))]) (st' := [.inl (v2), .inr (.inl (some 1))]) (M' := M) rfl trivial ?_
  refine am_WcallV (y := 11) (n := 2) (a := 1) (f := 61) (as := [.inl (v2)]) (st' := []) rfl rfl rfl rfl rfl rfl rfl rfl rfl rfl (Nat.zero_le _) rfl (am_CC_le (Nat.le_of_ble_eq_true rfl) (tm_X2_keptBelow h)) (fun r M6 q => ?_) (fun _ _ q => q.elim)
  obtain ⟨x5, rfl, h⟩ := q
  refine am_Wrun 4 (ps := []) (pc' := 67) (lv' := [(3, .inl (x5)), (0, .inr (.inl (some 9))), (1, .inl (v1)), (2, .inl (v2))]) (st' := [.inl (v2), .inr (.inl (some 1))]) (M' := M6) rfl trivial ?_
  refine am_WcallV (y := 14) (n := 2) (a := 1) (f := 70) (as := [.inl (v2)]) (st' := []) rfl rfl rfl rfl rfl rfl rfl rfl rfl rfl (Nat.zero_le _) rfl (am_CC_le (Nat.le_of_ble_eq_true rfl) (tm_X2_keptFrom h)) (fun r M8 q => ?_) (fun _ _ q => q.elim)
  obtain ⟨x7, rfl, h⟩ := q
  refine am_Wrun 5 (ps := []) (pc' := 79) (lv' := [(4, .inl (x7)), (3, .inl (x5)), (0, .inr (.inl (some 9))), (1, .inl (v1)), (2, .inl (v2))]) (st' := [.inl (x7), .inl (x5), .inr (.inl (some 1))]) (M' := M8) rfl trivial ?_
  refine am_WcallV (y := 12) (n := 3) (a := 1) (f := 82) (as := [.inl (x5), .inl (x7)]) (st' := []) rfl rfl rfl rfl rfl rfl rfl rfl rfl rfl (Nat.zero_le _) rfl (am_CC_le (Nat.le_of_ble_eq_true rfl) (tm_X2_sameStretch h)) (fun r M10 q => ?_) (fun _ _ q => q.elim)
  obtain ⟨x9, rfl, h⟩ := q
  obtain ⟨b0, ht, hf⟩ := h
  refine am_Wbr (P := [am_rg x9]) (c := ¬ x9 = 0) (t := 87) (f := 85) (st' := []) rfl rfl ⟨b0, trivial⟩ rfl (fun q => ?_) (fun q => ?_)
  · have h := ht q
    refine am_Wrun 2 (ps := []) (pc' := 91) (lv' := [(4, .inl (x7)), (3, .inl (x5)), (0, .inr (.inl (some 9))), (1, .inl (v1)), (2, .inl (v2))]) (st' := [.inr (.inl (some 1))]) (M' := M10) rfl trivial ?_
    refine am_WcallV (y := 16) (n := 1) (a := 1) (f := 94) (as := []) (st' := []) rfl rfl rfl rfl rfl rfl rfl rfl rfl rfl (Nat.zero_le _) rfl (am_CC_le (Nat.le_of_ble_eq_true rfl) (tm_X2_isStep h)) (fun r M12 q => ?_) (fun _ _ q => q.elim)
    obtain ⟨x11, rfl, h⟩ := q
    refine am_Wrun 2 (ps := []) (pc' := 98) (lv' := [(5, .inl (x11)), (4, .inl (x7)), (3, .inl (x5)), (0, .inr (.inl (some 9))), (1, .inl (v1)), (2, .inl (v2))]) (st' := [.inl (x11)]) (M' := M12) rfl trivial ?_
    obtain ⟨b0, ht, hf⟩ := h
    refine am_Wbr (P := [am_rg x11]) (c := x11 = 0) (t := 105) (f := 101) (st' := []) rfl rfl ⟨b0, trivial⟩ rfl (fun q => ?_) (fun q => ?_)
    · have h := ht q
      obtain ⟨c0_0, c1_0, h⟩ := h
      refine am_Wrun 11 (ps := [0 ≤ (x7 : Int) ∧ (x7 : Int) < 60, 0 ≤ (x5 : Int) ∧ (x5 : Int) < 60]) (pc' := 125) (lv' := [(5, .inl (x11)), (4, .inl (x7)), (3, .inl (x5)), (0, .inr (.inl (some 9))), (1, .inl (v1)), (2, .inl (v2))]) (st' := [.inl ((M12 3 x7) - (M12 3 x5))]) (M' := M12) rfl ⟨c0_0, c1_0, trivial⟩ ?_
      refine am_W_sub [3, 4, 2, 1, 0] rfl ?_
      exact tj_X1_findReading_125 v1 x5 x7 x11 ((M12 3 x7) - (M12 3 x5)) M12 h
    · have h := hf q
      refine am_Wrun 2 (ps := []) (pc' := 125) (lv' := [(5, .inl (x11)), (4, .inl (x7)), (3, .inl (x5)), (0, .inr (.inl (some 9))), (1, .inl (v1)), (2, .inl (v2))]) (st' := [.inl (0)]) (M' := M12) rfl trivial ?_
      refine am_W_sub [3, 4, 2, 1, 0] rfl ?_
      exact tj_X1_findReading_125 v1 x5 x7 x11 0 M12 h
  · have h := hf q
    refine am_Wrun 1 (ps := []) (pc' := 86) (lv' := [(4, .inl (x7)), (3, .inl (x5)), (0, .inr (.inl (some 9))), (1, .inl (v1)), (2, .inl (v2))]) (st' := [.inl (0)]) (M' := M10) rfl trivial ?_
    exact am_Wretz rfl rfl (Or.inl rfl) h
set_option maxRecDepth 20000 in
theorem tm_X1_findReading {a0 : Int} {M : am_M} {Q : Int → am_M → Prop} (h : wp_X1_findReading a0 M Q) : am_CC 3 54 [.inr (.inl (some 9)), .inl (a0)] M (am_QI Q) (fun _ _ => False) := by
  refine ⟨Nat.le_of_ble_eq_true rfl, ?_⟩
  show am_W (am_CC 2) dt_X1_findReading 2 0 none (am_QI Q) (am_qx 54 (fun _ _ => False)) (0, 0, [(0, .inr (.inl (some 9))), (1, .inl (a0))], [], M)
  refine am_Wrun 3 (ps := []) (pc' := 5) (lv' := [(0, .inr (.inl (some 9))), (1, .inl (a0))]) (st' := [.inl (a0), .inr (.inl (some 1))]) (M' := M) rfl trivial ?_
  refine am_WcallV (y := 55) (n := 2) (a := 1) (f := 8) (as := [.inl (a0)]) (st' := []) rfl rfl rfl rfl rfl rfl rfl rfl rfl rfl (Nat.zero_le _) rfl (am_CC_le (Nat.le_of_ble_eq_true rfl) (tm_X2_placeOf h)) (fun r M2 q => ?_) (fun _ _ q => q.elim)
  obtain ⟨x1, rfl, h⟩ := q
  refine am_Wrun 4 (ps := []) (pc' := 14) (lv' := [(2, .inl (x1)), (0, .inr (.inl (some 9))), (1, .inl (a0))]) (st' := [.inl (x1), .inr (.inl (some 1))]) (M' := M2) rfl trivial ?_
  refine am_WcallV (y := 8) (n := 2) (a := 1) (f := 17) (as := [.inl (x1)]) (st' := []) rfl rfl rfl rfl rfl rfl rfl rfl rfl rfl (Nat.zero_le _) rfl (am_CC_le (Nat.le_of_ble_eq_true rfl) (tm_X2_isKept h)) (fun r M4 q => ?_) (fun _ _ q => q.elim)
  obtain ⟨x3, rfl, h⟩ := q
  obtain ⟨b0, ht, hf⟩ := h
  refine am_Wbr (P := [am_rg x3]) (c := x3 = 0) (t := 53) (f := 20) (st' := []) rfl rfl ⟨b0, trivial⟩ rfl (fun q => ?_) (fun q => ?_)
  · have h := ht q
    refine am_W_sub [1, 2, 0] rfl ?_
    exact tj_X1_findReading_53 a0 x1 M4 h
  · have h := hf q
    obtain ⟨c0_0, h⟩ := h
    refine am_Wrun 6 (ps := [0 ≤ (x1 : Int) ∧ (x1 : Int) < 60]) (pc' := 30) (lv' := [(2, .inl (x1)), (0, .inr (.inl (some 9))), (1, .inl (a0))]) (st' := [.inl (a0), .inl (M4 2 x1)]) (M' := M4) rfl ⟨c0_0, trivial⟩ ?_
    obtain ⟨b0, b1, ht, hf⟩ := h
    refine am_Wbr (P := [am_rg (M4 2 x1), am_rg a0]) (c := ¬ (M4 2 x1) = a0) (t := 53) (f := 33) (st' := []) rfl rfl ⟨b0, b1, trivial⟩ rfl (fun q => ?_) (fun q => ?_)
    · have h := ht q
      refine am_W_sub [1, 2, 0] rfl ?_
      exact tj_X1_findReading_53 a0 x1 M4 h
    · have h := hf q
      obtain ⟨c0_0, h⟩ := h
      refine am_Wrun 11 (ps := [0 ≤ (x1 : Int) ∧ (x1 : Int) < 60]) (pc' := 52) (lv' := [(2, .inl (x1)), (0, .inr (.inl (some 9))), (1, .inl (a0))]) (st' := [.inl (1)]) (M' := (am_up (am_up M4 9 1 (M4 3 x1)) 9 2 1)) rfl ⟨c0_0, trivial⟩ ?_
      exact am_Wretz rfl rfl (Or.inr rfl) h
abbrev dt_X1_isTrue : am_D := (tk_X1_isTrue, 1, 2, some .boolean, tb_hn 53)
def wp_X1_isTrue (a0 : Int) (M : am_M) (Q : Int → am_M → Prop) : Prop := (am_rg a0) ∧ (a0 < 0 → Q 0 M) ∧ (¬ a0 < 0 → (am_rg a0) ∧ (am_rg (M 1 8)) ∧ ((M 1 8) ≤ a0 → Q 0 M) ∧ (¬ (M 1 8) ≤ a0 → (0 ≤ (a0 : Int) ∧ (a0 : Int) < 8) ∧ (wp_X1_findReading (M 7 a0) M (fun x1 M2 => (am_rg x1) ∧ (¬ x1 = 0 → (0 ≤ (a0 : Int) ∧ (a0 : Int) < 8) ∧ (am_rg (((M2 8 a0) * (M2 9 2)) - (M2 9 1))) ∧ ((am_rg (if 0 ≤ (((M2 8 a0) * (M2 9 2)) - (M2 9 1)) then (((M2 8 a0) * (M2 9 2)) - (M2 9 1)) else 0 - (((M2 8 a0) * (M2 9 2)) - (M2 9 1)))) ∧ (am_rg ((M2 6 0) * (M2 9 2))) ∧ (((M2 6 0) * (M2 9 2)) < (if 0 ≤ (((M2 8 a0) * (M2 9 2)) - (M2 9 1)) then (((M2 8 a0) * (M2 9 2)) - (M2 9 1)) else 0 - (((M2 8 a0) * (M2 9 2)) - (M2 9 1))) → Q 0 M2) ∧ (¬ ((M2 6 0) * (M2 9 2)) < (if 0 ≤ (((M2 8 a0) * (M2 9 2)) - (M2 9 1)) then (((M2 8 a0) * (M2 9 2)) - (M2 9 1)) else 0 - (((M2 8 a0) * (M2 9 2)) - (M2 9 1))) → Q 1 M2))) ∧ (¬ (¬ x1 = 0) → Q 0 M2)))))
set_option maxRecDepth 20000 in
theorem tm_X1_isTrue {a0 : Int} {M : am_M} {Q : Int → am_M → Prop} (h : wp_X1_isTrue a0 M Q) : am_CC 4 53 [.inr (.inl (some 9)), .inl (a0)] M (am_QI Q) (fun _ _ => False) := by
  refine ⟨Nat.le_of_ble_eq_true rfl, ?_⟩
  show am_W (am_CC 3) dt_X1_isTrue 3 0 none (am_QI Q) (am_qx 53 (fun _ _ => False)) (0, 0, [(0, .inr (.inl (some 9))), (1, .inl (a0))], [], M)
  refine am_Wrun 1 (ps := []) (pc' := 1) (lv' := [(0, .inr (.inl (some 9))), (1, .inl (a0))]) (st' := [.inl (a0)]) (M' := M) rfl trivial ?_
  obtain ⟨b0, ht, hf⟩ := h
  refine am_Wbr (P := [am_rg a0]) (c := a0 < 0) (t := 31) (f := 4) (st' := []) rfl rfl ⟨b0, trivial⟩ rfl (fun q => ?_) (fun q => ?_)
  · have h := ht q
    refine am_Wrun 1 (ps := []) (pc' := 32) (lv' := [(0, .inr (.inl (some 9))), (1, .inl (a0))]) (st' := [.inl (0)]) (M' := M) rfl trivial ?_
    exact am_Wretz rfl rfl (Or.inl rfl) h
  · have h := hf q
    refine am_Wrun 4 (ps := []) (pc' := 12) (lv' := [(0, .inr (.inl (some 9))), (1, .inl (a0))]) (st' := [.inl (M 1 8), .inl (a0)]) (M' := M) rfl trivial ?_
    obtain ⟨b0, b1, ht, hf⟩ := h
    refine am_Wbr (P := [am_rg a0, am_rg (M 1 8)]) (c := (M 1 8) ≤ a0) (t := 31) (f := 15) (st' := []) rfl rfl ⟨b0, b1, trivial⟩ rfl (fun q => ?_) (fun q => ?_)
    · have h := ht q
      refine am_Wrun 1 (ps := []) (pc' := 32) (lv' := [(0, .inr (.inl (some 9))), (1, .inl (a0))]) (st' := [.inl (0)]) (M' := M) rfl trivial ?_
      exact am_Wretz rfl rfl (Or.inl rfl) h
    · have h := hf q
      obtain ⟨c0_0, h⟩ := h
      refine am_Wrun 6 (ps := [0 ≤ (a0 : Int) ∧ (a0 : Int) < 8]) (pc' := 25) (lv' := [(0, .inr (.inl (some 9))), (1, .inl (a0))]) (st' := [.inl (M 7 a0), .inr (.inl (some 9))]) (M' := M) rfl ⟨c0_0, trivial⟩ ?_
      refine am_WcallV (y := 54) (n := 2) (a := 9) (f := 28) (as := [.inl (M 7 a0)]) (st' := []) rfl rfl rfl rfl rfl rfl rfl rfl rfl rfl (Nat.zero_le _) rfl (am_CC_le (Nat.le_of_ble_eq_true rfl) (tm_X1_findReading h)) (fun r M2 q => ?_) (fun _ _ q => q.elim)
      obtain ⟨x1, rfl, h⟩ := q
      obtain ⟨b0, ht, hf⟩ := h
      refine am_Wbr (P := [am_rg x1]) (c := ¬ x1 = 0) (t := 33) (f := 31) (st' := []) rfl rfl ⟨b0, trivial⟩ rfl (fun q => ?_) (fun q => ?_)
      · have h := ht q
        obtain ⟨c0_0, c1_0, h⟩ := h
        refine am_Wrun 20 (ps := [0 ≤ (a0 : Int) ∧ (a0 : Int) < 8, am_rg (((M2 8 a0) * (M2 9 2)) - (M2 9 1)) ∧ am_cs [] ≤ 8, 0 ≤ (0 : Int) ∧ (0 : Int) < 3]) (pc' := 69) (lv' := [(0, .inr (.inl (some 9))), (1, .inl (a0))]) (st' := [.inl ((M2 6 0) * (M2 9 2)), .inl (if 0 ≤ (((M2 8 a0) * (M2 9 2)) - (M2 9 1)) then (((M2 8 a0) * (M2 9 2)) - (M2 9 1)) else 0 - (((M2 8 a0) * (M2 9 2)) - (M2 9 1)))]) (M' := M2) rfl ⟨c0_0, ⟨c1_0, (by decide)⟩, ⟨by decide, by decide⟩, trivial⟩ ?_
        obtain ⟨b0, b1, ht, hf⟩ := h
        refine am_Wbr (P := [am_rg (if 0 ≤ (((M2 8 a0) * (M2 9 2)) - (M2 9 1)) then (((M2 8 a0) * (M2 9 2)) - (M2 9 1)) else 0 - (((M2 8 a0) * (M2 9 2)) - (M2 9 1))), am_rg ((M2 6 0) * (M2 9 2))]) (c := ((M2 6 0) * (M2 9 2)) < (if 0 ≤ (((M2 8 a0) * (M2 9 2)) - (M2 9 1)) then (((M2 8 a0) * (M2 9 2)) - (M2 9 1)) else 0 - (((M2 8 a0) * (M2 9 2)) - (M2 9 1)))) (t := 76) (f := 72) (st' := []) rfl rfl ⟨b0, b1, trivial⟩ rfl (fun q => ?_) (fun q => ?_)
        · have h := ht q
          refine am_Wrun 1 (ps := []) (pc' := 77) (lv' := [(0, .inr (.inl (some 9))), (1, .inl (a0))]) (st' := [.inl (0)]) (M' := M2) rfl trivial ?_
          exact am_Wretz rfl rfl (Or.inl rfl) h
        · have h := hf q
          refine am_Wrun 2 (ps := []) (pc' := 77) (lv' := [(0, .inr (.inl (some 9))), (1, .inl (a0))]) (st' := [.inl (1)]) (M' := M2) rfl trivial ?_
          exact am_Wretz rfl rfl (Or.inr rfl) h
      · have h := hf q
        refine am_Wrun 1 (ps := []) (pc' := 32) (lv' := [(0, .inr (.inl (some 9))), (1, .inl (a0))]) (st' := [.inl (0)]) (M' := M2) rfl trivial ?_
        exact am_Wretz rfl rfl (Or.inl rfl) h
abbrev dt_X5_trueNotes : am_D := (tk_X5_trueNotes, 5, 3, some .int, tb_hn 52)
def wl_X5_trueNotes_4 (Q : Int → am_M → Prop) : Nat → Int → Int → am_M → Prop
  | 0, _, _, _ => False
  | n + 1, v1, v2, M => (am_rg v2) ∧ (am_rg (M 1 8)) ∧ ((M 1 8) ≤ v2 → Q v1 M) ∧ (¬ (M 1 8) ≤ v2 → wp_X1_isTrue v2 M (fun x1 M2 => (am_rg x1) ∧ (x1 = 0 → wl_X5_trueNotes_4 Q n v1 (v2 + 1) M2) ∧ (¬ x1 = 0 → wl_X5_trueNotes_4 Q n (v1 + 1) (v2 + 1) M2)))
def wp_X5_trueNotes (M : am_M) (Q : Int → am_M → Prop) : Prop := ∃ e4, wl_X5_trueNotes_4 Q e4 0 0 M
set_option maxRecDepth 20000 in
theorem tw_X5_trueNotes_4 {Q : Int → am_M → Prop} {QX : am_X} : ∀ (n : Nat) (v1 : Int) (v2 : Int) (M : am_M), wl_X5_trueNotes_4 Q n v1 v2 M → am_W (am_CC 4) dt_X5_trueNotes 4 0 none (am_QI Q) QX (0, 4, [(0, .inr (.inl (some 0))), (1, .inl (v1)), (2, .inl (v2))], [], M)
  | 0, _, _, _, h => h.elim
  | n + 1, v1, v2, M, h => by
    refine am_Wrun 4 (ps := []) (pc' := 12) (lv' := [(0, .inr (.inl (some 0))), (1, .inl (v1)), (2, .inl (v2))]) (st' := [.inl (M 1 8), .inl (v2)]) (M' := M) rfl trivial ?_
    obtain ⟨b0, b1, ht, hf⟩ := h
    refine am_Wbr (P := [am_rg v2, am_rg (M 1 8)]) (c := (M 1 8) ≤ v2) (t := 35) (f := 15) (st' := []) rfl rfl ⟨b0, b1, trivial⟩ rfl (fun q => ?_) (fun q => ?_)
    · have h := ht q
      refine am_Wrun 1 (ps := []) (pc' := 36) (lv' := [(0, .inr (.inl (some 0))), (1, .inl (v1)), (2, .inl (v2))]) (st' := [.inl (v1)]) (M' := M) rfl trivial ?_
      exact am_Wreti rfl rfl h
    · have h := hf q
      refine am_Wrun 3 (ps := []) (pc' := 20) (lv' := [(0, .inr (.inl (some 0))), (1, .inl (v1)), (2, .inl (v2))]) (st' := [.inl (v2), .inr (.inl (some 9))]) (M' := M) rfl trivial ?_
      refine am_WcallV (y := 53) (n := 2) (a := 9) (f := 23) (as := [.inl (v2)]) (st' := []) rfl rfl rfl rfl rfl rfl rfl rfl rfl rfl (Nat.zero_le _) rfl (am_CC_le (Nat.le_of_ble_eq_true rfl) (tm_X1_isTrue h)) (fun r M2 q => ?_) (fun _ _ q => q.elim)
      obtain ⟨x1, rfl, h⟩ := q
      obtain ⟨b0, ht, hf⟩ := h
      refine am_Wbr (P := [am_rg x1]) (c := x1 = 0) (t := 29) (f := 26) (st' := []) rfl rfl ⟨b0, trivial⟩ rfl (fun q => ?_) (fun q => ?_)
      · have h := ht q
        refine am_Wrun 2 (ps := []) (pc' := 4) (lv' := [(2, .inl (v2 + 1)), (0, .inr (.inl (some 0))), (1, .inl (v1))]) (st' := []) (M' := M2) rfl trivial ?_
        refine am_W_sub [1, 2, 0] rfl ?_
        exact tw_X5_trueNotes_4 n v1 (v2 + 1) M2 h
      · have h := hf q
        refine am_Wrun 3 (ps := []) (pc' := 4) (lv' := [(2, .inl (v2 + 1)), (1, .inl (v1 + 1)), (0, .inr (.inl (some 0)))]) (st' := []) (M' := M2) rfl trivial ?_
        refine am_W_sub [2, 1, 0] rfl ?_
        exact tw_X5_trueNotes_4 n (v1 + 1) (v2 + 1) M2 h
set_option maxRecDepth 20000 in
theorem tm_X5_trueNotes {M : am_M} {Q : Int → am_M → Prop} (h : wp_X5_trueNotes M Q) : am_CC 5 52 [.inr (.inl (some 0))] M (am_QI Q) (fun _ _ => False) := by
  refine ⟨Nat.le_of_ble_eq_true rfl, ?_⟩
  show am_W (am_CC 4) dt_X5_trueNotes 4 0 none (am_QI Q) (am_qx 52 (fun _ _ => False)) (0, 0, [(0, .inr (.inl (some 0)))], [], M)
  refine am_Wrun 4 (ps := []) (pc' := 4) (lv' := [(2, .inl (0)), (1, .inl (0)), (0, .inr (.inl (some 0)))]) (st' := []) (M' := M) rfl trivial ?_
  refine am_W_sub [2, 1, 0] rfl ?_
  obtain ⟨n4, h⟩ := h
  exact tw_X5_trueNotes_4 n4 0 0 M h
abbrev dt_X1_findError : am_D := (tk_X1_findError, 1, 3, some .boolean, tb_hn 59)
def wp_X1_findError (a0 : Int) (M : am_M) (Q : Int → am_M → Prop) : Prop := wp_X2_isKept a0 M (fun x1 M2 => (am_rg x1) ∧ (x1 = 0 → wp_X2_earlierKept a0 M2 (fun x3 M4 => wp_X2_laterKept a0 M4 (fun x5 M6 => wp_X1_findMiss x3 x5 a0 M6 (fun x7 M8 => wp_X1_shorten M8 (fun M9 => (x7 = 0 ∨ x7 = 1) ∧ Q x7 M9))))) ∧ (¬ x1 = 0 → Q 1 (am_up (am_up M2 9 1 0) 9 2 1)))
set_option maxRecDepth 20000 in
theorem tm_X1_findError {a0 : Int} {M : am_M} {Q : Int → am_M → Prop} (h : wp_X1_findError a0 M Q) : am_CC 3 59 [.inr (.inl (some 9)), .inl (a0)] M (am_QI Q) (fun _ _ => False) := by
  refine ⟨Nat.le_of_ble_eq_true rfl, ?_⟩
  show am_W (am_CC 2) dt_X1_findError 2 0 none (am_QI Q) (am_qx 59 (fun _ _ => False)) (0, 0, [(0, .inr (.inl (some 9))), (1, .inl (a0))], [], M)
  refine am_Wrun 3 (ps := []) (pc' := 5) (lv' := [(0, .inr (.inl (some 9))), (1, .inl (a0))]) (st' := [.inl (a0), .inr (.inl (some 1))]) (M' := M) rfl trivial ?_
  refine am_WcallV (y := 8) (n := 2) (a := 1) (f := 8) (as := [.inl (a0)]) (st' := []) rfl rfl rfl rfl rfl rfl rfl rfl rfl rfl (Nat.zero_le _) rfl (am_CC_le (Nat.le_of_ble_eq_true rfl) (tm_X2_isKept h)) (fun r M2 q => ?_) (fun _ _ q => q.elim)
  obtain ⟨x1, rfl, h⟩ := q
  obtain ⟨b0, ht, hf⟩ := h
  refine am_Wbr (P := [am_rg x1]) (c := x1 = 0) (t := 23) (f := 11) (st' := []) rfl rfl ⟨b0, trivial⟩ rfl (fun q => ?_) (fun q => ?_)
  · have h := ht q
    refine am_Wrun 4 (ps := []) (pc' := 29) (lv' := [(0, .inr (.inl (some 9))), (1, .inl (a0))]) (st' := [.inl (a0), .inr (.inl (some 1)), .inr (.inl (some 9))]) (M' := M2) rfl trivial ?_
    refine am_WcallV (y := 10) (n := 2) (a := 1) (f := 32) (as := [.inl (a0)]) (st' := [.inr (.inl (some 9))]) rfl rfl rfl rfl rfl rfl rfl rfl rfl rfl (Nat.zero_le _) rfl (am_CC_le (Nat.le_of_ble_eq_true rfl) (tm_X2_earlierKept h)) (fun r M4 q => ?_) (fun _ _ q => q.elim)
    obtain ⟨x3, rfl, h⟩ := q
    refine am_Wrun 3 (ps := []) (pc' := 37) (lv' := [(0, .inr (.inl (some 9))), (1, .inl (a0))]) (st' := [.inl (a0), .inr (.inl (some 1)), .inl (x3), .inr (.inl (some 9))]) (M' := M4) rfl trivial ?_
    refine am_WcallV (y := 13) (n := 2) (a := 1) (f := 40) (as := [.inl (a0)]) (st' := [.inl (x3), .inr (.inl (some 9))]) rfl rfl rfl rfl rfl rfl rfl rfl rfl rfl (Nat.zero_le _) rfl (am_CC_le (Nat.le_of_ble_eq_true rfl) (tm_X2_laterKept h)) (fun r M6 q => ?_) (fun _ _ q => q.elim)
    obtain ⟨x5, rfl, h⟩ := q
    refine am_Wrun 1 (ps := []) (pc' := 41) (lv' := [(0, .inr (.inl (some 9))), (1, .inl (a0))]) (st' := [.inl (a0), .inl (x5), .inl (x3), .inr (.inl (some 9))]) (M' := M6) rfl trivial ?_
    refine am_WcallV (y := 15) (n := 4) (a := 9) (f := 44) (as := [.inl (x3), .inl (x5), .inl (a0)]) (st' := []) rfl rfl rfl rfl rfl rfl rfl rfl rfl rfl (Nat.zero_le _) rfl (am_CC_le (Nat.le_of_ble_eq_true rfl) (tm_X1_findMiss h)) (fun r M8 q => ?_) (fun _ _ q => q.elim)
    obtain ⟨x7, rfl, h⟩ := q
    refine am_Wrun 2 (ps := []) (pc' := 46) (lv' := [(2, .inl (x7)), (0, .inr (.inl (some 9))), (1, .inl (a0))]) (st' := [.inr (.inl (some 9))]) (M' := M8) rfl trivial ?_
    refine am_WcallV (y := 56) (n := 1) (a := 9) (f := 49) (as := []) (st' := []) rfl rfl rfl rfl rfl rfl rfl rfl rfl rfl (Nat.zero_le _) rfl (am_CC_le (Nat.le_of_ble_eq_true rfl) (tm_X1_shorten h)) (fun r M9 q => ?_) (fun _ _ q => q.elim)
    obtain ⟨rfl, h⟩ := q
    refine am_Wrun 1 (ps := []) (pc' := 50) (lv' := [(2, .inl (x7)), (0, .inr (.inl (some 9))), (1, .inl (a0))]) (st' := [.inl (x7)]) (M' := M9) rfl trivial ?_
    exact am_Wretz rfl rfl h.1 h.2
  · have h := hf q
    refine am_Wrun 7 (ps := []) (pc' := 22) (lv' := [(0, .inr (.inl (some 9))), (1, .inl (a0))]) (st' := [.inl (1)]) (M' := (am_up (am_up M2 9 1 0) 9 2 1)) rfl trivial ?_
    exact am_Wretz rfl rfl (Or.inr rfl) h
abbrev dt_X5_roundedUp : am_D := (tk_X5_roundedUp, 5, 2, some .int, tb_hn 24)
def wp_X5_roundedUp (a0 : Int) (a1 : Int) (M : am_M) (Q : Int → am_M → Prop) : Prop := (am_rg a1) ∧ (a1 ≤ 0 → Q 0 M) ∧ (¬ a1 ≤ 0 → (am_rg ((a0 + a1) - 1) ∧ am_rg a1 ∧ (0 : Int) < a1) ∧ (Q (Int.tdiv ((a0 + a1) - 1) a1) M))
set_option maxRecDepth 20000 in
theorem tm_X5_roundedUp {a0 a1 : Int} {M : am_M} {Q : Int → am_M → Prop} (h : wp_X5_roundedUp a0 a1 M Q) : am_CC 1 24 [.inl (a0), .inl (a1)] M (am_QI Q) (fun _ _ => False) := by
  refine ⟨Nat.le_of_ble_eq_true rfl, ?_⟩
  show am_W (am_CC 0) dt_X5_roundedUp 0 0 none (am_QI Q) (am_qx 24 (fun _ _ => False)) (0, 0, [(0, .inl (a0)), (1, .inl (a1))], [], M)
  refine am_Wrun 1 (ps := []) (pc' := 1) (lv' := [(0, .inl (a0)), (1, .inl (a1))]) (st' := [.inl (a1)]) (M' := M) rfl trivial ?_
  obtain ⟨b0, ht, hf⟩ := h
  refine am_Wbr (P := [am_rg a1]) (c := a1 ≤ 0) (t := 14) (f := 4) (st' := []) rfl rfl ⟨b0, trivial⟩ rfl (fun q => ?_) (fun q => ?_)
  · have h := ht q
    refine am_Wrun 1 (ps := []) (pc' := 15) (lv' := [(0, .inl (a0)), (1, .inl (a1))]) (st' := [.inl (0)]) (M' := M) rfl trivial ?_
    exact am_Wreti rfl rfl h
  · have h := hf q
    obtain ⟨c0_0, h⟩ := h
    refine am_Wrun 8 (ps := [am_rg ((a0 + a1) - 1) ∧ am_rg a1 ∧ (0 : Int) < a1]) (pc' := 15) (lv' := [(0, .inl (a0)), (1, .inl (a1))]) (st' := [.inl (Int.tdiv ((a0 + a1) - 1) a1)]) (M' := M) rfl ⟨c0_0, trivial⟩ ?_
    exact am_Wreti rfl rfl h
abbrev dt_X5_greatestError : am_D := (tk_X5_greatestError, 5, 3, some .int, tb_hn 58)
def wl_X5_greatestError_4 (Q : Int → am_M → Prop) : Nat → Int → Int → am_M → Prop
  | 0, _, _, _ => False
  | n + 1, v1, v2, M => (am_rg v2) ∧ (am_rg (M 1 7)) ∧ ((M 1 7) ≤ v2 → Q v1 M) ∧ (¬ (M 1 7) ≤ v2 → wp_X2_isKept v2 M (fun x1 M2 => (am_rg x1) ∧ (¬ x1 = 0 → wl_X5_greatestError_4 Q n v1 (v2 + 1) M2) ∧ (¬ (¬ x1 = 0) → wp_X1_findError v2 M2 (fun x3 M4 => (am_rg x3) ∧ (x3 = 0 → wl_X5_greatestError_4 Q n v1 (v2 + 1) M4) ∧ (¬ x3 = 0 → wp_X5_roundedUp (M4 9 1) (M4 9 2) M4 (fun x5 M6 => (am_rg v1) ∧ (am_rg x5) ∧ (wl_X5_greatestError_4 Q n (if v1 < x5 then x5 else v1) (v2 + 1) M6)))))))
def wp_X5_greatestError (M : am_M) (Q : Int → am_M → Prop) : Prop := ∃ e4, wl_X5_greatestError_4 Q e4 0 0 M
set_option maxRecDepth 20000 in
theorem tw_X5_greatestError_4 {Q : Int → am_M → Prop} {QX : am_X} : ∀ (n : Nat) (v1 : Int) (v2 : Int) (M : am_M), wl_X5_greatestError_4 Q n v1 v2 M → am_W (am_CC 3) dt_X5_greatestError 3 0 none (am_QI Q) QX (0, 4, [(0, .inr (.inl (some 0))), (1, .inl (v1)), (2, .inl (v2))], [], M)
  | 0, _, _, _, h => h.elim
  | n + 1, v1, v2, M, h => by
    refine am_Wrun 4 (ps := []) (pc' := 12) (lv' := [(0, .inr (.inl (some 0))), (1, .inl (v1)), (2, .inl (v2))]) (st' := [.inl (M 1 7), .inl (v2)]) (M' := M) rfl trivial ?_
    obtain ⟨b0, b1, ht, hf⟩ := h
    refine am_Wbr (P := [am_rg v2, am_rg (M 1 7)]) (c := (M 1 7) ≤ v2) (t := 65) (f := 15) (st' := []) rfl rfl ⟨b0, b1, trivial⟩ rfl (fun q => ?_) (fun q => ?_)
    · have h := ht q
      refine am_Wrun 1 (ps := []) (pc' := 66) (lv' := [(0, .inr (.inl (some 0))), (1, .inl (v1)), (2, .inl (v2))]) (st' := [.inl (v1)]) (M' := M) rfl trivial ?_
      exact am_Wreti rfl rfl h
    · have h := hf q
      refine am_Wrun 3 (ps := []) (pc' := 20) (lv' := [(0, .inr (.inl (some 0))), (1, .inl (v1)), (2, .inl (v2))]) (st' := [.inl (v2), .inr (.inl (some 1))]) (M' := M) rfl trivial ?_
      refine am_WcallV (y := 8) (n := 2) (a := 1) (f := 23) (as := [.inl (v2)]) (st' := []) rfl rfl rfl rfl rfl rfl rfl rfl rfl rfl (Nat.zero_le _) rfl (am_CC_le (Nat.le_of_ble_eq_true rfl) (tm_X2_isKept h)) (fun r M2 q => ?_) (fun _ _ q => q.elim)
      obtain ⟨x1, rfl, h⟩ := q
      obtain ⟨b0, ht, hf⟩ := h
      refine am_Wbr (P := [am_rg x1]) (c := ¬ x1 = 0) (t := 59) (f := 26) (st' := []) rfl rfl ⟨b0, trivial⟩ rfl (fun q => ?_) (fun q => ?_)
      · have h := ht q
        refine am_Wrun 2 (ps := []) (pc' := 4) (lv' := [(2, .inl (v2 + 1)), (0, .inr (.inl (some 0))), (1, .inl (v1))]) (st' := []) (M' := M2) rfl trivial ?_
        refine am_W_sub [1, 2, 0] rfl ?_
        exact tw_X5_greatestError_4 n v1 (v2 + 1) M2 h
      · have h := hf q
        refine am_Wrun 3 (ps := []) (pc' := 31) (lv' := [(0, .inr (.inl (some 0))), (1, .inl (v1)), (2, .inl (v2))]) (st' := [.inl (v2), .inr (.inl (some 9))]) (M' := M2) rfl trivial ?_
        refine am_WcallV (y := 59) (n := 2) (a := 9) (f := 34) (as := [.inl (v2)]) (st' := []) rfl rfl rfl rfl rfl rfl rfl rfl rfl rfl (Nat.zero_le _) rfl (am_CC_le (Nat.le_of_ble_eq_true rfl) (tm_X1_findError h)) (fun r M4 q => ?_) (fun _ _ q => q.elim)
        obtain ⟨x3, rfl, h⟩ := q
        obtain ⟨b0, ht, hf⟩ := h
        refine am_Wbr (P := [am_rg x3]) (c := x3 = 0) (t := 59) (f := 37) (st' := []) rfl rfl ⟨b0, trivial⟩ rfl (fun q => ?_) (fun q => ?_)
        · have h := ht q
          refine am_Wrun 2 (ps := []) (pc' := 4) (lv' := [(2, .inl (v2 + 1)), (0, .inr (.inl (some 0))), (1, .inl (v1))]) (st' := []) (M' := M4) rfl trivial ?_
          refine am_W_sub [1, 2, 0] rfl ?_
          exact tw_X5_greatestError_4 n v1 (v2 + 1) M4 h
        · have h := hf q
          refine am_Wrun 7 (ps := []) (pc' := 52) (lv' := [(0, .inr (.inl (some 0))), (1, .inl (v1)), (2, .inl (v2))]) (st' := [.inl (M4 9 2), .inl (M4 9 1), .inl (v1)]) (M' := M4) rfl trivial ?_
          refine am_WcallS (y := 24) (n := 2) (f := 55) (co := 0) (as := [.inl (M4 9 1), .inl (M4 9 2)]) (st' := [.inl (v1)]) rfl rfl rfl rfl rfl rfl rfl rfl rfl (Nat.zero_le _) rfl (am_CC_le (Nat.le_of_ble_eq_true rfl) (tm_X5_roundedUp h)) (fun r M6 q => ?_) (fun _ _ q => q.elim)
          obtain ⟨x5, rfl, h⟩ := q
          obtain ⟨c0_0, c0_1, h⟩ := h
          refine am_Wrun 4 (ps := [am_rg v1 ∧ am_rg x5 ∧ am_cs [] ≤ 8]) (pc' := 4) (lv' := [(2, .inl (v2 + 1)), (1, .inl (if v1 < x5 then x5 else v1)), (0, .inr (.inl (some 0)))]) (st' := []) (M' := M6) rfl ⟨⟨c0_0, c0_1, (by decide)⟩, trivial⟩ ?_
          refine am_W_sub [2, 1, 0] rfl ?_
          exact tw_X5_greatestError_4 n (if v1 < x5 then x5 else v1) (v2 + 1) M6 h
set_option maxRecDepth 20000 in
theorem tm_X5_greatestError {M : am_M} {Q : Int → am_M → Prop} (h : wp_X5_greatestError M Q) : am_CC 4 58 [.inr (.inl (some 0))] M (am_QI Q) (fun _ _ => False) := by
  refine ⟨Nat.le_of_ble_eq_true rfl, ?_⟩
  show am_W (am_CC 3) dt_X5_greatestError 3 0 none (am_QI Q) (am_qx 58 (fun _ _ => False)) (0, 0, [(0, .inr (.inl (some 0)))], [], M)
  refine am_Wrun 4 (ps := []) (pc' := 4) (lv' := [(2, .inl (0)), (1, .inl (0)), (0, .inr (.inl (some 0)))]) (st' := []) (M' := M) rfl trivial ?_
  refine am_W_sub [2, 1, 0] rfl ?_
  obtain ⟨n4, h⟩ := h
  exact tw_X5_greatestError_4 n4 0 0 M h
abbrev dt_X5_longestStep : am_D := (tk_X5_longestStep, 5, 4, some .int, tb_hn 60)
def wl_X5_longestStep_7 (Q : Int → am_M → Prop) : Nat → Int → Int → Int → am_M → Prop
  | 0, _, _, _, _ => False
  | n + 1, v1, v2, v3, M => (am_rg v3) ∧ (am_rg (M 1 7)) ∧ ((M 1 7) ≤ v3 → Q v1 M) ∧ (¬ (M 1 7) ≤ v3 → wp_X2_isKept v3 M (fun x1 M2 => (am_rg x1) ∧ (x1 = 0 → wl_X5_longestStep_7 Q n v1 v2 (v3 + 1) M2) ∧ (¬ x1 = 0 → wp_X2_sameStretch v2 v3 M2 (fun x3 M4 => (am_rg x3) ∧ (x3 = 0 → wl_X5_longestStep_7 Q n v1 v3 (v3 + 1) M4) ∧ (¬ x3 = 0 → (0 ≤ (v3 : Int) ∧ (v3 : Int) < 60) ∧ (0 ≤ (v2 : Int) ∧ (v2 : Int) < 60) ∧ (am_rg v1) ∧ (am_rg ((M4 2 v3) - (M4 2 v2))) ∧ (wl_X5_longestStep_7 Q n (if v1 < ((M4 2 v3) - (M4 2 v2)) then ((M4 2 v3) - (M4 2 v2)) else v1) v3 (v3 + 1) M4))))))
def wp_X5_longestStep (M : am_M) (Q : Int → am_M → Prop) : Prop := ∃ e7, wl_X5_longestStep_7 Q e7 0 (-1000000) 0 M
set_option maxRecDepth 20000 in
theorem tw_X5_longestStep_7 {Q : Int → am_M → Prop} {QX : am_X} : ∀ (n : Nat) (v1 : Int) (v2 : Int) (v3 : Int) (M : am_M), wl_X5_longestStep_7 Q n v1 v2 v3 M → am_W (am_CC 2) dt_X5_longestStep 2 0 none (am_QI Q) QX (0, 7, [(0, .inr (.inl (some 0))), (1, .inl (v1)), (2, .inl (v2)), (3, .inl (v3))], [], M)
  | 0, _, _, _, _, h => h.elim
  | n + 1, v1, v2, v3, M, h => by
    refine am_Wrun 4 (ps := []) (pc' := 15) (lv' := [(0, .inr (.inl (some 0))), (1, .inl (v1)), (2, .inl (v2)), (3, .inl (v3))]) (st' := [.inl (M 1 7), .inl (v3)]) (M' := M) rfl trivial ?_
    obtain ⟨b0, b1, ht, hf⟩ := h
    refine am_Wbr (P := [am_rg v3, am_rg (M 1 7)]) (c := (M 1 7) ≤ v3) (t := 73) (f := 18) (st' := []) rfl rfl ⟨b0, b1, trivial⟩ rfl (fun q => ?_) (fun q => ?_)
    · have h := ht q
      refine am_Wrun 1 (ps := []) (pc' := 74) (lv' := [(0, .inr (.inl (some 0))), (1, .inl (v1)), (2, .inl (v2)), (3, .inl (v3))]) (st' := [.inl (v1)]) (M' := M) rfl trivial ?_
      exact am_Wreti rfl rfl h
    · have h := hf q
      refine am_Wrun 3 (ps := []) (pc' := 23) (lv' := [(0, .inr (.inl (some 0))), (1, .inl (v1)), (2, .inl (v2)), (3, .inl (v3))]) (st' := [.inl (v3), .inr (.inl (some 1))]) (M' := M) rfl trivial ?_
      refine am_WcallV (y := 8) (n := 2) (a := 1) (f := 26) (as := [.inl (v3)]) (st' := []) rfl rfl rfl rfl rfl rfl rfl rfl rfl rfl (Nat.zero_le _) rfl (am_CC_le (Nat.le_of_ble_eq_true rfl) (tm_X2_isKept h)) (fun r M2 q => ?_) (fun _ _ q => q.elim)
      obtain ⟨x1, rfl, h⟩ := q
      obtain ⟨b0, ht, hf⟩ := h
      refine am_Wbr (P := [am_rg x1]) (c := x1 = 0) (t := 67) (f := 29) (st' := []) rfl rfl ⟨b0, trivial⟩ rfl (fun q => ?_) (fun q => ?_)
      · have h := ht q
        refine am_Wrun 2 (ps := []) (pc' := 7) (lv' := [(3, .inl (v3 + 1)), (0, .inr (.inl (some 0))), (1, .inl (v1)), (2, .inl (v2))]) (st' := []) (M' := M2) rfl trivial ?_
        refine am_W_sub [1, 2, 3, 0] rfl ?_
        exact tw_X5_longestStep_7 n v1 v2 (v3 + 1) M2 h
      · have h := hf q
        refine am_Wrun 4 (ps := []) (pc' := 35) (lv' := [(0, .inr (.inl (some 0))), (1, .inl (v1)), (2, .inl (v2)), (3, .inl (v3))]) (st' := [.inl (v3), .inl (v2), .inr (.inl (some 1))]) (M' := M2) rfl trivial ?_
        refine am_WcallV (y := 12) (n := 3) (a := 1) (f := 38) (as := [.inl (v2), .inl (v3)]) (st' := []) rfl rfl rfl rfl rfl rfl rfl rfl rfl rfl (Nat.zero_le _) rfl (am_CC_le (Nat.le_of_ble_eq_true rfl) (tm_X2_sameStretch h)) (fun r M4 q => ?_) (fun _ _ q => q.elim)
        obtain ⟨x3, rfl, h⟩ := q
        obtain ⟨b0, ht, hf⟩ := h
        refine am_Wbr (P := [am_rg x3]) (c := x3 = 0) (t := 65) (f := 41) (st' := []) rfl rfl ⟨b0, trivial⟩ rfl (fun q => ?_) (fun q => ?_)
        · have h := ht q
          refine am_Wrun 4 (ps := []) (pc' := 7) (lv' := [(3, .inl (v3 + 1)), (2, .inl (v3)), (0, .inr (.inl (some 0))), (1, .inl (v1))]) (st' := []) (M' := M4) rfl trivial ?_
          refine am_W_sub [2, 3, 1, 0] rfl ?_
          exact tw_X5_longestStep_7 n v1 v3 (v3 + 1) M4 h
        · have h := hf q
          obtain ⟨c0_0, c1_0, c2_0, c2_1, h⟩ := h
          refine am_Wrun 18 (ps := [0 ≤ (v3 : Int) ∧ (v3 : Int) < 60, 0 ≤ (v2 : Int) ∧ (v2 : Int) < 60, am_rg v1 ∧ am_rg ((M4 2 v3) - (M4 2 v2)) ∧ am_cs [] ≤ 8]) (pc' := 7) (lv' := [(3, .inl (v3 + 1)), (2, .inl (v3)), (1, .inl (if v1 < ((M4 2 v3) - (M4 2 v2)) then ((M4 2 v3) - (M4 2 v2)) else v1)), (0, .inr (.inl (some 0)))]) (st' := []) (M' := M4) rfl ⟨c0_0, c1_0, ⟨c2_0, c2_1, (by decide)⟩, trivial⟩ ?_
          refine am_W_sub [3, 2, 1, 0] rfl ?_
          exact tw_X5_longestStep_7 n (if v1 < ((M4 2 v3) - (M4 2 v2)) then ((M4 2 v3) - (M4 2 v2)) else v1) v3 (v3 + 1) M4 h
set_option maxRecDepth 20000 in
theorem tm_X5_longestStep {M : am_M} {Q : Int → am_M → Prop} (h : wp_X5_longestStep M Q) : am_CC 3 60 [.inr (.inl (some 0))] M (am_QI Q) (fun _ _ => False) := by
  refine ⟨Nat.le_of_ble_eq_true rfl, ?_⟩
  show am_W (am_CC 2) dt_X5_longestStep 2 0 none (am_QI Q) (am_qx 60 (fun _ _ => False)) (0, 0, [(0, .inr (.inl (some 0)))], [], M)
  refine am_Wrun 6 (ps := []) (pc' := 7) (lv' := [(3, .inl (0)), (2, .inl ((-1000000))), (1, .inl (0)), (0, .inr (.inl (some 0)))]) (st' := []) (M' := M) rfl trivial ?_
  refine am_W_sub [3, 2, 1, 0] rfl ?_
  obtain ⟨n7, h⟩ := h
  exact tw_X5_longestStep_7 n7 0 (-1000000) 0 M h
abbrev dt_X5_count : am_D := (tk_X5_count, 5, 2, some .int, tb_hn 51)
def wp_X5_count (a0 : Int) (M : am_M) (Q : Int → am_M → Prop) (X : am_X) : Prop := wp_X5_refuseOutside a0 10 M (fun M1 => (am_rg a0) ∧ ((a0 < 0 ∨ 9 < a0) → Q (M1 14 2) M1) ∧ (a0 = 0 → Q (M1 1 7) M1) ∧ (a0 = 1 → wp_X2_keptPoints M1 (fun x2 M3 => Q x2 M3)) ∧ (a0 = 2 → wp_X5_brokenAmong 0 (M1 1 7) M1 (fun x4 M5 => Q x4 M5)) ∧ (a0 = 3 → wp_X2_stretchCount M1 (fun x6 M7 => Q x6 M7)) ∧ (a0 = 4 → Q (M1 1 8) M1) ∧ (a0 = 5 → wp_X5_trueNotes M1 (fun x8 M9 => Q x8 M9)) ∧ (a0 = 6 → wp_X5_greatestError M1 (fun x10 M11 => Q x10 M11)) ∧ (a0 = 7 → Q (M1 1 9) M1) ∧ (a0 = 8 → Q (M1 1 10) M1) ∧ (a0 = 9 → wp_X5_longestStep M1 (fun x12 M13 => Q x12 M13))) X
set_option maxRecDepth 20000 in
theorem tm_X5_count {a0 : Int} {M : am_M} {Q : Int → am_M → Prop} {X : am_X} (h : wp_X5_count a0 M Q X) : am_CC 7 51 [.inr (.inl (some 0)), .inl (a0)] M (am_QI Q) X := by
  refine ⟨Nat.le_of_ble_eq_true rfl, ?_⟩
  show am_W (am_CC 6) dt_X5_count 6 0 none (am_QI Q) (am_qx 51 X) (0, 0, [(0, .inr (.inl (some 0))), (1, .inl (a0))], [], M)
  have hX : ∀ E M, X E M → am_qx 51 X E M := fun E M q => ⟨⟨rfl, by decide⟩, q⟩
  refine am_Wrun 2 (ps := [-128 ≤ (10 : Int) ∧ (10 : Int) ≤ 127]) (pc' := 3) (lv' := [(0, .inr (.inl (some 0))), (1, .inl (a0))]) (st' := [.inl (10), .inl (a0)]) (M' := M) rfl ⟨⟨by decide, by decide⟩, trivial⟩ ?_
  refine am_WcallS (y := 19) (n := 2) (f := 6) (co := 0) (as := [.inl (a0), .inl (10)]) (st' := []) rfl rfl rfl rfl rfl rfl rfl rfl rfl (Nat.zero_le _) rfl (am_CC_le (Nat.le_of_ble_eq_true rfl) (tm_X5_refuseOutside h)) (fun r M1 q => ?_) (fun E M q => hX _ _ q)
  obtain ⟨rfl, h⟩ := q
  refine am_Wrun 1 (ps := []) (pc' := 7) (lv' := [(0, .inr (.inl (some 0))), (1, .inl (a0))]) (st' := [.inl (a0)]) (M' := M1) rfl trivial ?_
  obtain ⟨c0, hd, j0, j1, j2, j3, j4, j5, j6, j7, j8, j9⟩ := h
  refine am_Wsw (n := 10) (t := 136) rfl c0 rfl (by decide) (fun q => ?_) (fun j hj e2 => ?_)
  · have h := hd q
    refine am_Wrun 3 (ps := []) (pc' := 143) (lv' := [(0, .inr (.inl (some 0))), (1, .inl (a0))]) (st' := [.inl (M1 14 2)]) (M' := M1) rfl trivial ?_
    exact am_Wreti rfl rfl h
  · match j, hj, e2 with
    | 0, _, e2 =>
      have h := j0 e2
      refine ⟨_, 60, rfl, rfl, ?_⟩
      refine am_Wrun 3 (ps := []) (pc' := 67) (lv' := [(0, .inr (.inl (some 0))), (1, .inl (a0))]) (st' := [.inl (M1 1 7)]) (M' := M1) rfl trivial ?_
      exact am_Wreti rfl rfl h
    | 1, _, e2 =>
      have h := j1 e2
      refine ⟨_, 68, rfl, rfl, ?_⟩
      refine am_Wrun 2 (ps := []) (pc' := 72) (lv' := [(0, .inr (.inl (some 0))), (1, .inl (a0))]) (st' := [.inr (.inl (some 1))]) (M' := M1) rfl trivial ?_
      refine am_WcallV (y := 5) (n := 1) (a := 1) (f := 75) (as := []) (st' := []) rfl rfl rfl rfl rfl rfl rfl rfl rfl rfl (Nat.zero_le _) rfl (am_CC_le (Nat.le_of_ble_eq_true rfl) (tm_X2_keptPoints h)) (fun r M3 q => ?_) (fun _ _ q => q.elim)
      obtain ⟨x2, rfl, h⟩ := q
      exact am_Wreti rfl rfl h
    | 2, _, e2 =>
      have h := j2 e2
      refine ⟨_, 76, rfl, rfl, ?_⟩
      refine am_Wrun 5 (ps := []) (pc' := 85) (lv' := [(0, .inr (.inl (some 0))), (1, .inl (a0))]) (st' := [.inl (M1 1 7), .inl (0), .inr (.inl (some 0))]) (M' := M1) rfl trivial ?_
      refine am_WcallV (y := 49) (n := 3) (a := 0) (f := 88) (as := [.inl (0), .inl (M1 1 7)]) (st' := []) rfl rfl rfl rfl rfl rfl rfl rfl rfl rfl (Nat.zero_le _) rfl (am_CC_le (Nat.le_of_ble_eq_true rfl) (tm_X5_brokenAmong h)) (fun r M5 q => ?_) (fun _ _ q => q.elim)
      obtain ⟨x4, rfl, h⟩ := q
      exact am_Wreti rfl rfl h
    | 3, _, e2 =>
      have h := j3 e2
      refine ⟨_, 89, rfl, rfl, ?_⟩
      refine am_Wrun 2 (ps := []) (pc' := 93) (lv' := [(0, .inr (.inl (some 0))), (1, .inl (a0))]) (st' := [.inr (.inl (some 1))]) (M' := M1) rfl trivial ?_
      refine am_WcallV (y := 34) (n := 1) (a := 1) (f := 96) (as := []) (st' := []) rfl rfl rfl rfl rfl rfl rfl rfl rfl rfl (Nat.zero_le _) rfl (am_CC_le (Nat.le_of_ble_eq_true rfl) (tm_X2_stretchCount h)) (fun r M7 q => ?_) (fun _ _ q => q.elim)
      obtain ⟨x6, rfl, h⟩ := q
      exact am_Wreti rfl rfl h
    | 4, _, e2 =>
      have h := j4 e2
      refine ⟨_, 97, rfl, rfl, ?_⟩
      refine am_Wrun 3 (ps := []) (pc' := 104) (lv' := [(0, .inr (.inl (some 0))), (1, .inl (a0))]) (st' := [.inl (M1 1 8)]) (M' := M1) rfl trivial ?_
      exact am_Wreti rfl rfl h
    | 5, _, e2 =>
      have h := j5 e2
      refine ⟨_, 105, rfl, rfl, ?_⟩
      refine am_Wrun 1 (ps := []) (pc' := 106) (lv' := [(0, .inr (.inl (some 0))), (1, .inl (a0))]) (st' := [.inr (.inl (some 0))]) (M' := M1) rfl trivial ?_
      refine am_WcallV (y := 52) (n := 1) (a := 0) (f := 109) (as := []) (st' := []) rfl rfl rfl rfl rfl rfl rfl rfl rfl rfl (Nat.zero_le _) rfl (am_CC_le (Nat.le_of_ble_eq_true rfl) (tm_X5_trueNotes h)) (fun r M9 q => ?_) (fun _ _ q => q.elim)
      obtain ⟨x8, rfl, h⟩ := q
      exact am_Wreti rfl rfl h
    | 6, _, e2 =>
      have h := j6 e2
      refine ⟨_, 110, rfl, rfl, ?_⟩
      refine am_Wrun 1 (ps := []) (pc' := 111) (lv' := [(0, .inr (.inl (some 0))), (1, .inl (a0))]) (st' := [.inr (.inl (some 0))]) (M' := M1) rfl trivial ?_
      refine am_WcallV (y := 58) (n := 1) (a := 0) (f := 114) (as := []) (st' := []) rfl rfl rfl rfl rfl rfl rfl rfl rfl rfl (Nat.zero_le _) rfl (am_CC_le (Nat.le_of_ble_eq_true rfl) (tm_X5_greatestError h)) (fun r M11 q => ?_) (fun _ _ q => q.elim)
      obtain ⟨x10, rfl, h⟩ := q
      exact am_Wreti rfl rfl h
    | 7, _, e2 =>
      have h := j7 e2
      refine ⟨_, 115, rfl, rfl, ?_⟩
      refine am_Wrun 3 (ps := []) (pc' := 122) (lv' := [(0, .inr (.inl (some 0))), (1, .inl (a0))]) (st' := [.inl (M1 1 9)]) (M' := M1) rfl trivial ?_
      exact am_Wreti rfl rfl h
    | 8, _, e2 =>
      have h := j8 e2
      refine ⟨_, 123, rfl, rfl, ?_⟩
      refine am_Wrun 3 (ps := []) (pc' := 130) (lv' := [(0, .inr (.inl (some 0))), (1, .inl (a0))]) (st' := [.inl (M1 1 10)]) (M' := M1) rfl trivial ?_
      exact am_Wreti rfl rfl h
    | 9, _, e2 =>
      have h := j9 e2
      refine ⟨_, 131, rfl, rfl, ?_⟩
      refine am_Wrun 1 (ps := []) (pc' := 132) (lv' := [(0, .inr (.inl (some 0))), (1, .inl (a0))]) (st' := [.inr (.inl (some 0))]) (M' := M1) rfl trivial ?_
      refine am_WcallV (y := 60) (n := 1) (a := 0) (f := 135) (as := []) (st' := []) rfl rfl rfl rfl rfl rfl rfl rfl rfl rfl (Nat.zero_le _) rfl (am_CC_le (Nat.le_of_ble_eq_true rfl) (tm_X5_longestStep h)) (fun r M13 q => ?_) (fun _ _ q => q.elim)
      obtain ⟨x12, rfl, h⟩ := q
      exact am_Wreti rfl rfl h
    | n + 10, hj, _ => exact absurd hj (by omega)
