abbrev dt_X5_refuseNoStretch : am_D := (tk_X5_refuseNoStretch, 5, 2, none, tb_hn 33)
def wj_X5_refuseNoStretch_15 (Q : am_M → Prop) (X : am_X) (M : am_M) : Prop := X 2 M
def wp_X5_refuseNoStretch (a0 : Int) (M : am_M) (Q : am_M → Prop) (X : am_X) : Prop := (am_rg a0) ∧ (a0 < 0 → wj_X5_refuseNoStretch_15 Q X  M) ∧ (¬ a0 < 0 → wp_X2_stretchCount M (fun x1 M2 => (am_rg a0) ∧ (am_rg x1) ∧ (a0 < x1 → Q M2) ∧ (¬ a0 < x1 → wj_X5_refuseNoStretch_15 Q X  M2)))
set_option maxRecDepth 20000 in
theorem tj_X5_refuseNoStretch_15 {Q : am_M → Prop} {X : am_X} {QX : am_X} (hX : ∀ E M, X E M → QX E M) (M : am_M) (h : wj_X5_refuseNoStretch_15 Q X M) : am_W (am_CC 5) dt_X5_refuseNoStretch 5 0 none (am_QV Q) QX (0, 15, [], [], M) := by
  exact am_Wthr (is := 344) (ic := 256) (E := 2) rfl (Nat.le_of_ble_eq_true rfl) rfl rfl rfl rfl (Or.inr ⟨rfl, rfl, rfl⟩) (hX _ _ h)
set_option maxRecDepth 20000 in
theorem tm_X5_refuseNoStretch {a0 : Int} {M : am_M} {Q : am_M → Prop} {X : am_X} (h : wp_X5_refuseNoStretch a0 M Q X) : am_CC 6 33 [.inr (.inl (some 0)), .inl (a0)] M (am_QV Q) X := by
  refine ⟨Nat.le_of_ble_eq_true rfl, ?_⟩
  show am_W (am_CC 5) dt_X5_refuseNoStretch 5 0 none (am_QV Q) (am_qx 33 X) (0, 0, [(0, .inr (.inl (some 0))), (1, .inl (a0))], [], M)
  have hX : ∀ E M, X E M → am_qx 33 X E M := fun E M q => ⟨⟨rfl, by decide⟩, q⟩
  refine am_Wrun 1 (ps := []) (pc' := 1) (lv' := [(0, .inr (.inl (some 0))), (1, .inl (a0))]) (st' := [.inl (a0)]) (M' := M) rfl trivial ?_
  obtain ⟨b0, ht, hf⟩ := h
  refine am_Wbr (P := [am_rg a0]) (c := a0 < 0) (t := 15) (f := 4) (st' := []) rfl rfl ⟨b0, trivial⟩ rfl (fun q => ?_) (fun q => ?_)
  · have h := ht q
    refine am_W_sub [] rfl ?_
    exact tj_X5_refuseNoStretch_15 hX  M h
  · have h := hf q
    refine am_Wrun 3 (ps := []) (pc' := 9) (lv' := [(0, .inr (.inl (some 0))), (1, .inl (a0))]) (st' := [.inr (.inl (some 1)), .inl (a0)]) (M' := M) rfl trivial ?_
    refine am_WcallV (y := 34) (n := 1) (a := 1) (f := 12) (as := []) (st' := [.inl (a0)]) rfl rfl rfl rfl rfl rfl rfl rfl rfl rfl (Nat.zero_le _) rfl (am_CC_le (Nat.le_of_ble_eq_true rfl) (tm_X2_stretchCount h)) (fun r M2 q => ?_) (fun _ _ q => q.elim)
    obtain ⟨x1, rfl, h⟩ := q
    obtain ⟨b0, b1, ht, hf⟩ := h
    refine am_Wbr (P := [am_rg a0, am_rg x1]) (c := a0 < x1) (t := 26) (f := 15) (st' := []) rfl rfl ⟨b0, b1, trivial⟩ rfl (fun q => ?_) (fun q => ?_)
    · have h := ht q
      exact am_Wretv rfl rfl h
    · have h := hf q
      refine am_W_sub [] rfl ?_
      exact tj_X5_refuseNoStretch_15 hX  M2 h
abbrev dt_X1_findWorst : am_D := (tk_X1_findWorst, 1, 14, some .int, tb_hn 22)
def wj_X1_findWorst_152 (Q : Int → am_M → Prop) (k112 : Int → Int → Int → Int → Int → Int → Int → Int → am_M → Prop) (v2 : Int) (v6 : Int) (v7 : Int) (v8 : Int) (v9 : Int) (v10 : Int) (v11 : Int) (v12 : Int) (v13 : Int) (M : am_M) : Prop := (am_rg v13) ∧ (am_rg v11) ∧ (v13 ≤ v11 → k112 v2 v6 v7 v8 v9 v10 v11 (v12 + 1) M) ∧ (¬ v13 ≤ v11 → k112 v2 v6 v7 v8 v9 v12 v13 (v12 + 1) M)
def wl_X1_findWorst_112 (Q : Int → am_M → Prop) : Nat → Int → Int → Int → Int → Int → Int → Int → Int → am_M → Prop
  | 0, _, _, _, _, _, _, _, _, _ => False
  | n + 1, v2, v6, v7, v8, v9, v10, v11, v12, M => (am_rg v12) ∧ (am_rg v2) ∧ (v2 ≤ v12 → (am_rg v11) ∧ (Q v10 (am_up (am_up M 9 1 (if v11 < 0 then 0 else v11)) 9 2 v6))) ∧ (¬ v2 ≤ v12 → (0 ≤ (v12 : Int) ∧ (v12 : Int) < 60) ∧ (0 ≤ (v12 : Int) ∧ (v12 : Int) < 60) ∧ ((am_rg ((((M 3 v12) - v9) * v6) - (v7 * ((M 2 v12) - v8)))) ∧ (0 ≤ ((((M 3 v12) - v9) * v6) - (v7 * ((M 2 v12) - v8))) → wj_X1_findWorst_152 Q (wl_X1_findWorst_112 Q n) v2 v6 v7 v8 v9 v10 v11 v12 ((((M 3 v12) - v9) * v6) - (v7 * ((M 2 v12) - v8))) M) ∧ (¬ 0 ≤ ((((M 3 v12) - v9) * v6) - (v7 * ((M 2 v12) - v8))) → wj_X1_findWorst_152 Q (wl_X1_findWorst_112 Q n) v2 v6 v7 v8 v9 v10 v11 v12 (-((((M 3 v12) - v9) * v6) - (v7 * ((M 2 v12) - v8)))) M)))
def wj_X1_findWorst_87 (Q : Int → am_M → Prop) (v1 : Int) (v2 : Int) (v6 : Int) (s0 : Int) (M : am_M) : Prop := (0 ≤ (v1 : Int) ∧ (v1 : Int) < 60) ∧ (0 ≤ (v1 : Int) ∧ (v1 : Int) < 60) ∧ (∃ e112, wl_X1_findWorst_112 Q e112 v2 v6 s0 (M 2 v1) (M 3 v1) (-1000000) (-1) (v1 + 1) M)
def wj_X1_findWorst_67 (Q : Int → am_M → Prop) (v1 : Int) (v2 : Int) (v5 : Int) (s0 : Int) (M : am_M) : Prop := (am_rg v5) ∧ (v5 = 0 → (0 ≤ (v2 : Int) ∧ (v2 : Int) < 60) ∧ (0 ≤ (v1 : Int) ∧ (v1 : Int) < 60) ∧ (wj_X1_findWorst_87 Q v1 v2 s0 ((M 3 v2) - (M 3 v1)) M)) ∧ (¬ v5 = 0 → wj_X1_findWorst_87 Q v1 v2 s0 0 M)
def wp_X1_findWorst (a0 : Int) (a1 : Int) (M : am_M) (Q : Int → am_M → Prop) : Prop := wp_X2_sameStretch a0 a1 (am_up (am_up M 9 1 0) 9 2 1) (fun x1 M2 => (am_rg x1) ∧ (¬ x1 = 0 → wp_X2_isStep M2 (fun x3 M4 => (am_rg x3) ∧ (x3 = 0 → (0 ≤ (a1 : Int) ∧ (a1 : Int) < 60) ∧ (0 ≤ (a0 : Int) ∧ (a0 : Int) < 60) ∧ (wj_X1_findWorst_67 Q a0 a1 x3 ((M4 2 a1) - (M4 2 a0)) M4)) ∧ (¬ x3 = 0 → wj_X1_findWorst_67 Q a0 a1 x3 1 M4))) ∧ (¬ (¬ x1 = 0) → Q (-1000000) M2))
set_option maxRecDepth 20000 in
theorem tj_X1_findWorst_152 {Q : Int → am_M → Prop} {QX : am_X} {k112 : Int → Int → Int → Int → Int → Int → Int → Int → am_M → Prop} (hk112 : ∀ (v2 : Int) (v6 : Int) (v7 : Int) (v8 : Int) (v9 : Int) (v10 : Int) (v11 : Int) (v12 : Int) (M : am_M), k112 v2 v6 v7 v8 v9 v10 v11 v12 M → am_W (am_CC 1) dt_X1_findWorst 1 0 none (am_QI Q) QX (0, 112, [(0, .inr (.inl (some 9))), (2, .inl (v2)), (3, .inr (.inl (some 2))), (4, .inr (.inl (some 3))), (6, .inl (v6)), (7, .inl (v7)), (8, .inl (v8)), (9, .inl (v9)), (10, .inl (v10)), (11, .inl (v11)), (12, .inl (v12))], [], M)) (v2 : Int) (v6 : Int) (v7 : Int) (v8 : Int) (v9 : Int) (v10 : Int) (v11 : Int) (v12 : Int) (v13 : Int) (M : am_M) (h : wj_X1_findWorst_152 Q k112 v2 v6 v7 v8 v9 v10 v11 v12 v13 M) : am_W (am_CC 1) dt_X1_findWorst 1 0 none (am_QI Q) QX (0, 152, [(0, .inr (.inl (some 9))), (2, .inl (v2)), (3, .inr (.inl (some 2))), (4, .inr (.inl (some 3))), (6, .inl (v6)), (7, .inl (v7)), (8, .inl (v8)), (9, .inl (v9)), (10, .inl (v10)), (11, .inl (v11)), (12, .inl (v12)), (13, .inl (v13))], [], M) := by
  refine am_Wrun 2 (ps := []) (pc' := 156) (lv' := [(0, .inr (.inl (some 9))), (2, .inl (v2)), (3, .inr (.inl (some 2))), (4, .inr (.inl (some 3))), (6, .inl (v6)), (7, .inl (v7)), (8, .inl (v8)), (9, .inl (v9)), (10, .inl (v10)), (11, .inl (v11)), (12, .inl (v12)), (13, .inl (v13))]) (st' := [.inl (v11), .inl (v13)]) (M' := M) rfl trivial ?_
  obtain ⟨b0, b1, ht, hf⟩ := h
  refine am_Wbr (P := [am_rg v13, am_rg v11]) (c := v13 ≤ v11) (t := 167) (f := 159) (st' := []) rfl rfl ⟨b0, b1, trivial⟩ rfl (fun q => ?_) (fun q => ?_)
  · have h := ht q
    refine am_Wrun 2 (ps := []) (pc' := 112) (lv' := [(12, .inl (v12 + 1)), (0, .inr (.inl (some 9))), (2, .inl (v2)), (3, .inr (.inl (some 2))), (4, .inr (.inl (some 3))), (6, .inl (v6)), (7, .inl (v7)), (8, .inl (v8)), (9, .inl (v9)), (10, .inl (v10)), (11, .inl (v11)), (13, .inl (v13))]) (st' := []) (M' := M) rfl trivial ?_
    refine am_W_sub [1, 2, 3, 4, 5, 6, 7, 8, 9, 10, 0] rfl ?_
    exact hk112 v2 v6 v7 v8 v9 v10 v11 (v12 + 1) M h
  · have h := hf q
    refine am_Wrun 6 (ps := []) (pc' := 112) (lv' := [(12, .inl (v12 + 1)), (10, .inl (v12)), (11, .inl (v13)), (0, .inr (.inl (some 9))), (2, .inl (v2)), (3, .inr (.inl (some 2))), (4, .inr (.inl (some 3))), (6, .inl (v6)), (7, .inl (v7)), (8, .inl (v8)), (9, .inl (v9)), (13, .inl (v13))]) (st' := []) (M' := M) rfl trivial ?_
    refine am_W_sub [3, 4, 5, 6, 7, 8, 9, 10, 1, 2, 0] rfl ?_
    exact hk112 v2 v6 v7 v8 v9 v12 v13 (v12 + 1) M h
set_option maxRecDepth 20000 in
theorem tw_X1_findWorst_112 {Q : Int → am_M → Prop} {QX : am_X} : ∀ (n : Nat) (v2 : Int) (v6 : Int) (v7 : Int) (v8 : Int) (v9 : Int) (v10 : Int) (v11 : Int) (v12 : Int) (M : am_M), wl_X1_findWorst_112 Q n v2 v6 v7 v8 v9 v10 v11 v12 M → am_W (am_CC 1) dt_X1_findWorst 1 0 none (am_QI Q) QX (0, 112, [(0, .inr (.inl (some 9))), (2, .inl (v2)), (3, .inr (.inl (some 2))), (4, .inr (.inl (some 3))), (6, .inl (v6)), (7, .inl (v7)), (8, .inl (v8)), (9, .inl (v9)), (10, .inl (v10)), (11, .inl (v11)), (12, .inl (v12))], [], M)
  | 0, _, _, _, _, _, _, _, _, _, h => h.elim
  | n + 1, v2, v6, v7, v8, v9, v10, v11, v12, M, h => by
    refine am_Wrun 2 (ps := []) (pc' := 115) (lv' := [(0, .inr (.inl (some 9))), (2, .inl (v2)), (3, .inr (.inl (some 2))), (4, .inr (.inl (some 3))), (6, .inl (v6)), (7, .inl (v7)), (8, .inl (v8)), (9, .inl (v9)), (10, .inl (v10)), (11, .inl (v11)), (12, .inl (v12))]) (st' := [.inl (v2), .inl (v12)]) (M' := M) rfl trivial ?_
    obtain ⟨b0, b1, ht, hf⟩ := h
    refine am_Wbr (P := [am_rg v12, am_rg v2]) (c := v2 ≤ v12) (t := 173) (f := 118) (st' := []) rfl rfl ⟨b0, b1, trivial⟩ rfl (fun q => ?_) (fun q => ?_)
    · have h := ht q
      obtain ⟨c0_0, h⟩ := h
      refine am_Wrun 9 (ps := [am_rg v11 ∧ am_rg 0 ∧ am_cs [.inr (.inl (some 9))] ≤ 8]) (pc' := 191) (lv' := [(0, .inr (.inl (some 9))), (2, .inl (v2)), (3, .inr (.inl (some 2))), (4, .inr (.inl (some 3))), (6, .inl (v6)), (7, .inl (v7)), (8, .inl (v8)), (9, .inl (v9)), (10, .inl (v10)), (11, .inl (v11)), (12, .inl (v12))]) (st' := [.inl (v10)]) (M' := (am_up (am_up M 9 1 (if v11 < 0 then 0 else v11)) 9 2 v6)) rfl ⟨⟨c0_0, (am_rgd rfl), (by decide)⟩, trivial⟩ ?_
      exact am_Wreti rfl rfl h
    · have h := hf q
      obtain ⟨c0_0, c1_0, h⟩ := h
      refine am_Wrun 17 (ps := [0 ≤ (v12 : Int) ∧ (v12 : Int) < 60, 0 ≤ (v12 : Int) ∧ (v12 : Int) < 60]) (pc' := 144) (lv' := [(13, .inl ((((M 3 v12) - v9) * v6) - (v7 * ((M 2 v12) - v8)))), (0, .inr (.inl (some 9))), (2, .inl (v2)), (3, .inr (.inl (some 2))), (4, .inr (.inl (some 3))), (6, .inl (v6)), (7, .inl (v7)), (8, .inl (v8)), (9, .inl (v9)), (10, .inl (v10)), (11, .inl (v11)), (12, .inl (v12))]) (st' := [.inl ((((M 3 v12) - v9) * v6) - (v7 * ((M 2 v12) - v8)))]) (M' := M) rfl ⟨c0_0, c1_0, trivial⟩ ?_
      obtain ⟨b0, ht, hf⟩ := h
      refine am_Wbr (P := [am_rg ((((M 3 v12) - v9) * v6) - (v7 * ((M 2 v12) - v8)))]) (c := 0 ≤ ((((M 3 v12) - v9) * v6) - (v7 * ((M 2 v12) - v8)))) (t := 152) (f := 147) (st' := []) rfl rfl ⟨b0, trivial⟩ rfl (fun q => ?_) (fun q => ?_)
      · have h := ht q
        refine am_W_sub [1, 2, 3, 4, 5, 6, 7, 8, 9, 10, 11, 0] rfl ?_
        exact tj_X1_findWorst_152 (tw_X1_findWorst_112 n) v2 v6 v7 v8 v9 v10 v11 v12 ((((M 3 v12) - v9) * v6) - (v7 * ((M 2 v12) - v8))) M h
      · have h := hf q
        refine am_Wrun 3 (ps := []) (pc' := 152) (lv' := [(13, .inl (-((((M 3 v12) - v9) * v6) - (v7 * ((M 2 v12) - v8))))), (0, .inr (.inl (some 9))), (2, .inl (v2)), (3, .inr (.inl (some 2))), (4, .inr (.inl (some 3))), (6, .inl (v6)), (7, .inl (v7)), (8, .inl (v8)), (9, .inl (v9)), (10, .inl (v10)), (11, .inl (v11)), (12, .inl (v12))]) (st' := []) (M' := M) rfl trivial ?_
        refine am_W_sub [1, 2, 3, 4, 5, 6, 7, 8, 9, 10, 11, 0] rfl ?_
        exact tj_X1_findWorst_152 (tw_X1_findWorst_112 n) v2 v6 v7 v8 v9 v10 v11 v12 (-((((M 3 v12) - v9) * v6) - (v7 * ((M 2 v12) - v8)))) M h
set_option maxRecDepth 20000 in
theorem tj_X1_findWorst_87 {Q : Int → am_M → Prop} {QX : am_X} (v1 : Int) (v2 : Int) (v6 : Int) (s0 : Int) (M : am_M) (h : wj_X1_findWorst_87 Q v1 v2 v6 s0 M) : am_W (am_CC 1) dt_X1_findWorst 1 0 none (am_QI Q) QX (0, 87, [(0, .inr (.inl (some 9))), (1, .inl (v1)), (2, .inl (v2)), (3, .inr (.inl (some 2))), (4, .inr (.inl (some 3))), (6, .inl (v6))], [.inl (s0)], M) := by
  obtain ⟨c0_0, c1_0, h⟩ := h
  refine am_Wrun 17 (ps := [0 ≤ (v1 : Int) ∧ (v1 : Int) < 60, 0 ≤ (v1 : Int) ∧ (v1 : Int) < 60]) (pc' := 112) (lv' := [(12, .inl (v1 + 1)), (11, .inl ((-1))), (10, .inl ((-1000000))), (9, .inl (M 3 v1)), (8, .inl (M 2 v1)), (7, .inl (s0)), (0, .inr (.inl (some 9))), (1, .inl (v1)), (2, .inl (v2)), (3, .inr (.inl (some 2))), (4, .inr (.inl (some 3))), (6, .inl (v6))]) (st' := []) (M' := M) rfl ⟨c0_0, c1_0, trivial⟩ ?_
  refine am_W_sub [6, 8, 9, 10, 11, 5, 4, 3, 2, 1, 0] rfl ?_
  obtain ⟨n112, h⟩ := h
  exact tw_X1_findWorst_112 n112 v2 v6 s0 (M 2 v1) (M 3 v1) (-1000000) (-1) (v1 + 1) M h
set_option maxRecDepth 20000 in
theorem tj_X1_findWorst_67 {Q : Int → am_M → Prop} {QX : am_X} (v1 : Int) (v2 : Int) (v5 : Int) (s0 : Int) (M : am_M) (h : wj_X1_findWorst_67 Q v1 v2 v5 s0 M) : am_W (am_CC 1) dt_X1_findWorst 1 0 none (am_QI Q) QX (0, 67, [(0, .inr (.inl (some 9))), (1, .inl (v1)), (2, .inl (v2)), (3, .inr (.inl (some 2))), (4, .inr (.inl (some 3))), (5, .inl (v5))], [.inl (s0)], M) := by
  refine am_Wrun 2 (ps := []) (pc' := 71) (lv' := [(6, .inl (s0)), (0, .inr (.inl (some 9))), (1, .inl (v1)), (2, .inl (v2)), (3, .inr (.inl (some 2))), (4, .inr (.inl (some 3))), (5, .inl (v5))]) (st' := [.inl (v5)]) (M' := M) rfl trivial ?_
  obtain ⟨b0, ht, hf⟩ := h
  refine am_Wbr (P := [am_rg v5]) (c := v5 = 0) (t := 78) (f := 74) (st' := []) rfl rfl ⟨b0, trivial⟩ rfl (fun q => ?_) (fun q => ?_)
  · have h := ht q
    obtain ⟨c0_0, c1_0, h⟩ := h
    refine am_Wrun 7 (ps := [0 ≤ (v2 : Int) ∧ (v2 : Int) < 60, 0 ≤ (v1 : Int) ∧ (v1 : Int) < 60]) (pc' := 87) (lv' := [(6, .inl (s0)), (0, .inr (.inl (some 9))), (1, .inl (v1)), (2, .inl (v2)), (3, .inr (.inl (some 2))), (4, .inr (.inl (some 3))), (5, .inl (v5))]) (st' := [.inl ((M 3 v2) - (M 3 v1))]) (M' := M) rfl ⟨c0_0, c1_0, trivial⟩ ?_
    refine am_W_sub [1, 2, 3, 4, 5, 0] rfl ?_
    exact tj_X1_findWorst_87 v1 v2 s0 ((M 3 v2) - (M 3 v1)) M h
  · have h := hf q
    refine am_Wrun 2 (ps := []) (pc' := 87) (lv' := [(6, .inl (s0)), (0, .inr (.inl (some 9))), (1, .inl (v1)), (2, .inl (v2)), (3, .inr (.inl (some 2))), (4, .inr (.inl (some 3))), (5, .inl (v5))]) (st' := [.inl (0)]) (M' := M) rfl trivial ?_
    refine am_W_sub [1, 2, 3, 4, 5, 0] rfl ?_
    exact tj_X1_findWorst_87 v1 v2 s0 0 M h
set_option maxRecDepth 20000 in
theorem tm_X1_findWorst {a0 a1 : Int} {M : am_M} {Q : Int → am_M → Prop} (h : wp_X1_findWorst a0 a1 M Q) : am_CC 2 22 [.inr (.inl (some 9)), .inl (a0), .inl (a1)] M (am_QI Q) (fun _ _ => False) := by
  refine ⟨Nat.le_of_ble_eq_true rfl, ?_⟩
  show am_W (am_CC 1) dt_X1_findWorst 1 0 none (am_QI Q) (am_qx 22 (fun _ _ => False)) (0, 0, [(0, .inr (.inl (some 9))), (1, .inl (a0)), (2, .inl (a1))], [], M)
  refine am_Wrun 10 (ps := []) (pc' := 16) (lv' := [(0, .inr (.inl (some 9))), (1, .inl (a0)), (2, .inl (a1))]) (st' := [.inl (a1), .inl (a0), .inr (.inl (some 1))]) (M' := (am_up (am_up M 9 1 0) 9 2 1)) rfl trivial ?_
  refine am_WcallV (y := 12) (n := 3) (a := 1) (f := 19) (as := [.inl (a0), .inl (a1)]) (st' := []) rfl rfl rfl rfl rfl rfl rfl rfl rfl rfl (Nat.zero_le _) rfl (am_CC_le (Nat.le_of_ble_eq_true rfl) (tm_X2_sameStretch h)) (fun r M2 q => ?_) (fun _ _ q => q.elim)
  obtain ⟨x1, rfl, h⟩ := q
  obtain ⟨b0, ht, hf⟩ := h
  refine am_Wbr (P := [am_rg x1]) (c := ¬ x1 = 0) (t := 25) (f := 22) (st' := []) rfl rfl ⟨b0, trivial⟩ rfl (fun q => ?_) (fun q => ?_)
  · have h := ht q
    refine am_Wrun 10 (ps := []) (pc' := 46) (lv' := [(4, .inr (.inl (some 3))), (3, .inr (.inl (some 2))), (0, .inr (.inl (some 9))), (1, .inl (a0)), (2, .inl (a1))]) (st' := [.inr (.inl (some 1))]) (M' := M2) rfl trivial ?_
    refine am_WcallV (y := 16) (n := 1) (a := 1) (f := 49) (as := []) (st' := []) rfl rfl rfl rfl rfl rfl rfl rfl rfl rfl (Nat.zero_le _) rfl (am_CC_le (Nat.le_of_ble_eq_true rfl) (tm_X2_isStep h)) (fun r M4 q => ?_) (fun _ _ q => q.elim)
    obtain ⟨x3, rfl, h⟩ := q
    refine am_Wrun 2 (ps := []) (pc' := 53) (lv' := [(5, .inl (x3)), (4, .inr (.inl (some 3))), (3, .inr (.inl (some 2))), (0, .inr (.inl (some 9))), (1, .inl (a0)), (2, .inl (a1))]) (st' := [.inl (x3)]) (M' := M4) rfl trivial ?_
    obtain ⟨b0, ht, hf⟩ := h
    refine am_Wbr (P := [am_rg x3]) (c := x3 = 0) (t := 60) (f := 56) (st' := []) rfl rfl ⟨b0, trivial⟩ rfl (fun q => ?_) (fun q => ?_)
    · have h := ht q
      obtain ⟨c0_0, c1_0, h⟩ := h
      refine am_Wrun 7 (ps := [0 ≤ (a1 : Int) ∧ (a1 : Int) < 60, 0 ≤ (a0 : Int) ∧ (a0 : Int) < 60]) (pc' := 67) (lv' := [(5, .inl (x3)), (4, .inr (.inl (some 3))), (3, .inr (.inl (some 2))), (0, .inr (.inl (some 9))), (1, .inl (a0)), (2, .inl (a1))]) (st' := [.inl ((M4 2 a1) - (M4 2 a0))]) (M' := M4) rfl ⟨c0_0, c1_0, trivial⟩ ?_
      refine am_W_sub [3, 4, 5, 2, 1, 0] rfl ?_
      exact tj_X1_findWorst_67 a0 a1 x3 ((M4 2 a1) - (M4 2 a0)) M4 h
    · have h := hf q
      refine am_Wrun 2 (ps := []) (pc' := 67) (lv' := [(5, .inl (x3)), (4, .inr (.inl (some 3))), (3, .inr (.inl (some 2))), (0, .inr (.inl (some 9))), (1, .inl (a0)), (2, .inl (a1))]) (st' := [.inl (1)]) (M' := M4) rfl trivial ?_
      refine am_W_sub [3, 4, 5, 2, 1, 0] rfl ?_
      exact tj_X1_findWorst_67 a0 a1 x3 1 M4 h
  · have h := hf q
    refine am_Wrun 1 (ps := []) (pc' := 24) (lv' := [(0, .inr (.inl (some 9))), (1, .inl (a0)), (2, .inl (a1))]) (st' := [.inl ((-1000000))]) (M' := M2) rfl trivial ?_
    exact am_Wreti rfl rfl h
abbrev dt_X4_cell : am_D := (tk_X4_cell, 4, 3, some .int, tb_hn 23)
def wj_X4_cell_25 (Q : Int → am_M → Prop) (v0 : Int) (v1 : Int) (s0 : Int) (M : am_M) : Prop := (am_rg s0) ∧ (s0 = 0 → Q 0 M) ∧ (¬ s0 = 0 → Q ((v0 * 60) + v1) M)
def wj_X4_cell_24 (Q : Int → am_M → Prop) (v0 : Int) (v1 : Int) (M : am_M) : Prop := wj_X4_cell_25 Q v0 v1 0 M
def wp_X4_cell (a0 : Int) (a1 : Int) (M : am_M) (Q : Int → am_M → Prop) : Prop := (am_rg a0) ∧ (a0 < 0 → wj_X4_cell_24 Q a0 a1 M) ∧ (¬ a0 < 0 → (am_rg a0) ∧ (60 ≤ a0 → wj_X4_cell_24 Q a0 a1 M) ∧ (¬ 60 ≤ a0 → (am_rg a1) ∧ (a1 < 0 → wj_X4_cell_24 Q a0 a1 M) ∧ (¬ a1 < 0 → (am_rg a1) ∧ (60 ≤ a1 → wj_X4_cell_24 Q a0 a1 M) ∧ (¬ 60 ≤ a1 → wj_X4_cell_25 Q a0 a1 1 M))))
set_option maxRecDepth 20000 in
theorem tj_X4_cell_25 {Q : Int → am_M → Prop} {QX : am_X} (v0 : Int) (v1 : Int) (s0 : Int) (M : am_M) (h : wj_X4_cell_25 Q v0 v1 s0 M) : am_W (am_CC 0) dt_X4_cell 0 0 none (am_QI Q) QX (0, 25, [(0, .inl (v0)), (1, .inl (v1))], [.inl (s0)], M) := by
  refine am_Wrun 2 (ps := []) (pc' := 27) (lv' := [(2, .inl (s0)), (0, .inl (v0)), (1, .inl (v1))]) (st' := [.inl (s0)]) (M' := M) rfl trivial ?_
  obtain ⟨b0, ht, hf⟩ := h
  refine am_Wbr (P := [am_rg s0]) (c := s0 = 0) (t := 39) (f := 30) (st' := []) rfl rfl ⟨b0, trivial⟩ rfl (fun q => ?_) (fun q => ?_)
  · have h := ht q
    refine am_Wrun 1 (ps := []) (pc' := 40) (lv' := [(2, .inl (s0)), (0, .inl (v0)), (1, .inl (v1))]) (st' := [.inl (0)]) (M' := M) rfl trivial ?_
    exact am_Wreti rfl rfl h
  · have h := hf q
    refine am_Wrun 6 (ps := [-128 ≤ (60 : Int) ∧ (60 : Int) ≤ 127]) (pc' := 40) (lv' := [(2, .inl (s0)), (0, .inl (v0)), (1, .inl (v1))]) (st' := [.inl ((v0 * 60) + v1)]) (M' := M) rfl ⟨⟨by decide, by decide⟩, trivial⟩ ?_
    exact am_Wreti rfl rfl h
set_option maxRecDepth 20000 in
theorem tj_X4_cell_24 {Q : Int → am_M → Prop} {QX : am_X} (v0 : Int) (v1 : Int) (M : am_M) (h : wj_X4_cell_24 Q v0 v1 M) : am_W (am_CC 0) dt_X4_cell 0 0 none (am_QI Q) QX (0, 24, [(0, .inl (v0)), (1, .inl (v1))], [], M) := by
  refine am_Wrun 1 (ps := []) (pc' := 25) (lv' := [(0, .inl (v0)), (1, .inl (v1))]) (st' := [.inl (0)]) (M' := M) rfl trivial ?_
  refine am_W_sub [0, 1] rfl ?_
  exact tj_X4_cell_25 v0 v1 0 M h
set_option maxRecDepth 20000 in
theorem tm_X4_cell {a0 a1 : Int} {M : am_M} {Q : Int → am_M → Prop} (h : wp_X4_cell a0 a1 M Q) : am_CC 1 23 [.inl (a0), .inl (a1)] M (am_QI Q) (fun _ _ => False) := by
  refine ⟨Nat.le_of_ble_eq_true rfl, ?_⟩
  show am_W (am_CC 0) dt_X4_cell 0 0 none (am_QI Q) (am_qx 23 (fun _ _ => False)) (0, 0, [(0, .inl (a0)), (1, .inl (a1))], [], M)
  refine am_Wrun 1 (ps := []) (pc' := 1) (lv' := [(0, .inl (a0)), (1, .inl (a1))]) (st' := [.inl (a0)]) (M' := M) rfl trivial ?_
  obtain ⟨b0, ht, hf⟩ := h
  refine am_Wbr (P := [am_rg a0]) (c := a0 < 0) (t := 24) (f := 4) (st' := []) rfl rfl ⟨b0, trivial⟩ rfl (fun q => ?_) (fun q => ?_)
  · have h := ht q
    refine am_W_sub [0, 1] rfl ?_
    exact tj_X4_cell_24 a0 a1 M h
  · have h := hf q
    refine am_Wrun 2 (ps := [-128 ≤ (60 : Int) ∧ (60 : Int) ≤ 127]) (pc' := 7) (lv' := [(0, .inl (a0)), (1, .inl (a1))]) (st' := [.inl (60), .inl (a0)]) (M' := M) rfl ⟨⟨by decide, by decide⟩, trivial⟩ ?_
    obtain ⟨b0, ht, hf⟩ := h
    refine am_Wbr (P := [am_rg a0, am_rg 60]) (c := 60 ≤ a0) (t := 24) (f := 10) (st' := []) rfl rfl ⟨b0, (am_rgd rfl), trivial⟩ rfl (fun q => ?_) (fun q => ?_)
    · have h := ht q
      refine am_W_sub [0, 1] rfl ?_
      exact tj_X4_cell_24 a0 a1 M h
    · have h := hf q
      refine am_Wrun 1 (ps := []) (pc' := 11) (lv' := [(0, .inl (a0)), (1, .inl (a1))]) (st' := [.inl (a1)]) (M' := M) rfl trivial ?_
      obtain ⟨b0, ht, hf⟩ := h
      refine am_Wbr (P := [am_rg a1]) (c := a1 < 0) (t := 24) (f := 14) (st' := []) rfl rfl ⟨b0, trivial⟩ rfl (fun q => ?_) (fun q => ?_)
      · have h := ht q
        refine am_W_sub [0, 1] rfl ?_
        exact tj_X4_cell_24 a0 a1 M h
      · have h := hf q
        refine am_Wrun 2 (ps := [-128 ≤ (60 : Int) ∧ (60 : Int) ≤ 127]) (pc' := 17) (lv' := [(0, .inl (a0)), (1, .inl (a1))]) (st' := [.inl (60), .inl (a1)]) (M' := M) rfl ⟨⟨by decide, by decide⟩, trivial⟩ ?_
        obtain ⟨b0, ht, hf⟩ := h
        refine am_Wbr (P := [am_rg a1, am_rg 60]) (c := 60 ≤ a1) (t := 24) (f := 20) (st' := []) rfl rfl ⟨b0, (am_rgd rfl), trivial⟩ rfl (fun q => ?_) (fun q => ?_)
        · have h := ht q
          refine am_W_sub [0, 1] rfl ?_
          exact tj_X4_cell_24 a0 a1 M h
        · have h := hf q
          refine am_Wrun 2 (ps := []) (pc' := 25) (lv' := [(0, .inl (a0)), (1, .inl (a1))]) (st' := [.inl (1)]) (M' := M) rfl trivial ?_
          refine am_W_sub [0, 1] rfl ?_
          exact tj_X4_cell_25 a0 a1 1 M h
abbrev dt_X4_findNeeds : am_D := (tk_X4_findNeeds, 4, 3, none, tb_hn 21)
def wl_X4_findNeeds_25 (Q : am_M → Prop) (k10 : Int → am_M → Prop) : Nat → Int → Int → am_M → Prop
  | 0, _, _, _ => False
  | n + 1, v1, v2, M => (am_rg v2) ∧ (am_rg (M 1 7)) ∧ ((M 1 7) ≤ v2 → k10 (v1 + 1) M) ∧ (¬ (M 1 7) ≤ v2 → wp_X2_sameStretch v1 v2 M (fun x1 M2 => (am_rg x1) ∧ (x1 = 0 → k10 (v1 + 1) M2) ∧ (¬ x1 = 0 → wp_X1_findWorst v1 v2 M2 (fun x3 M4 => wp_X4_cell v1 v2 M4 (fun x5 M6 => wp_X5_roundedUp (M6 9 1) (M6 9 2) M6 (fun x7 M8 => (0 ≤ (x5 : Int) ∧ (x5 : Int) < 3600) ∧ (wl_X4_findNeeds_25 Q k10 n v1 (v2 + 1) (am_up M8 13 x5 x7))))))))
def wl_X4_findNeeds_10 (Q : am_M → Prop) : Nat → Int → am_M → Prop
  | 0, _, _ => False
  | n + 1, v1, M => (am_rg v1) ∧ (am_rg (M 1 7)) ∧ ((M 1 7) ≤ v1 → Q (am_up M 10 5 1)) ∧ (¬ (M 1 7) ≤ v1 → ∃ e25, wl_X4_findNeeds_25 Q (wl_X4_findNeeds_10 Q n) e25 v1 (v1 + 1) M)
def wp_X4_findNeeds (M : am_M) (Q : am_M → Prop) : Prop := (am_rg (M 10 5)) ∧ ((M 10 5) = 0 → ∃ e10, wl_X4_findNeeds_10 Q e10 0 M) ∧ (¬ (M 10 5) = 0 → Q M)
set_option maxRecDepth 20000 in
theorem tw_X4_findNeeds_25 {Q : am_M → Prop} {QX : am_X} {k10 : Int → am_M → Prop} (hk10 : ∀ (v1 : Int) (M : am_M), k10 v1 M → am_W (am_CC 2) dt_X4_findNeeds 2 0 none (am_QV Q) QX (0, 10, [(0, .inr (.inl (some 10))), (1, .inl (v1))], [], M)) : ∀ (n : Nat) (v1 : Int) (v2 : Int) (M : am_M), wl_X4_findNeeds_25 Q k10 n v1 v2 M → am_W (am_CC 2) dt_X4_findNeeds 2 0 none (am_QV Q) QX (0, 25, [(0, .inr (.inl (some 10))), (1, .inl (v1)), (2, .inl (v2))], [], M)
  | 0, _, _, _, h => h.elim
  | n + 1, v1, v2, M, h => by
    refine am_Wrun 4 (ps := []) (pc' := 33) (lv' := [(0, .inr (.inl (some 10))), (1, .inl (v1)), (2, .inl (v2))]) (st' := [.inl (M 1 7), .inl (v2)]) (M' := M) rfl trivial ?_
    obtain ⟨b0, b1, ht, hf⟩ := h
    refine am_Wbr (P := [am_rg v2, am_rg (M 1 7)]) (c := (M 1 7) ≤ v2) (t := 91) (f := 36) (st' := []) rfl rfl ⟨b0, b1, trivial⟩ rfl (fun q => ?_) (fun q => ?_)
    · have h := ht q
      refine am_Wrun 2 (ps := []) (pc' := 10) (lv' := [(1, .inl (v1 + 1)), (0, .inr (.inl (some 10))), (2, .inl (v2))]) (st' := []) (M' := M) rfl trivial ?_
      refine am_W_sub [1, 0] rfl ?_
      exact hk10 (v1 + 1) M h
    · have h := hf q
      refine am_Wrun 4 (ps := []) (pc' := 42) (lv' := [(0, .inr (.inl (some 10))), (1, .inl (v1)), (2, .inl (v2))]) (st' := [.inl (v2), .inl (v1), .inr (.inl (some 1))]) (M' := M) rfl trivial ?_
      refine am_WcallV (y := 12) (n := 3) (a := 1) (f := 45) (as := [.inl (v1), .inl (v2)]) (st' := []) rfl rfl rfl rfl rfl rfl rfl rfl rfl rfl (Nat.zero_le _) rfl (am_CC_le (Nat.le_of_ble_eq_true rfl) (tm_X2_sameStretch h)) (fun r M2 q => ?_) (fun _ _ q => q.elim)
      obtain ⟨x1, rfl, h⟩ := q
      obtain ⟨b0, ht, hf⟩ := h
      refine am_Wbr (P := [am_rg x1]) (c := x1 = 0) (t := 91) (f := 48) (st' := []) rfl rfl ⟨b0, trivial⟩ rfl (fun q => ?_) (fun q => ?_)
      · have h := ht q
        refine am_Wrun 2 (ps := []) (pc' := 10) (lv' := [(1, .inl (v1 + 1)), (0, .inr (.inl (some 10))), (2, .inl (v2))]) (st' := []) (M' := M2) rfl trivial ?_
        refine am_W_sub [1, 0] rfl ?_
        exact hk10 (v1 + 1) M2 h
      · have h := hf q
        refine am_Wrun 4 (ps := []) (pc' := 54) (lv' := [(0, .inr (.inl (some 10))), (1, .inl (v1)), (2, .inl (v2))]) (st' := [.inl (v2), .inl (v1), .inr (.inl (some 9))]) (M' := M2) rfl trivial ?_
        refine am_WcallV (y := 22) (n := 3) (a := 9) (f := 57) (as := [.inl (v1), .inl (v2)]) (st' := []) rfl rfl rfl rfl rfl rfl rfl rfl rfl rfl (Nat.zero_le _) rfl (am_CC_le (Nat.le_of_ble_eq_true rfl) (tm_X1_findWorst h)) (fun r M4 q => ?_) (fun _ _ q => q.elim)
        obtain ⟨x3, rfl, h⟩ := q
        refine am_Wrun 5 (ps := []) (pc' := 64) (lv' := [(0, .inr (.inl (some 10))), (1, .inl (v1)), (2, .inl (v2))]) (st' := [.inl (v2), .inl (v1), .inr (.inl (some 13))]) (M' := M4) rfl trivial ?_
        refine am_WcallS (y := 23) (n := 2) (f := 67) (co := 0) (as := [.inl (v1), .inl (v2)]) (st' := [.inr (.inl (some 13))]) rfl rfl rfl rfl rfl rfl rfl rfl rfl (Nat.zero_le _) rfl (am_CC_le (Nat.le_of_ble_eq_true rfl) (tm_X4_cell h)) (fun r M6 q => ?_) (fun _ _ q => q.elim)
        obtain ⟨x5, rfl, h⟩ := q
        refine am_Wrun 6 (ps := []) (pc' := 81) (lv' := [(0, .inr (.inl (some 10))), (1, .inl (v1)), (2, .inl (v2))]) (st' := [.inl (M6 9 2), .inl (M6 9 1), .inl (x5), .inr (.inl (some 13))]) (M' := M6) rfl trivial ?_
        refine am_WcallS (y := 24) (n := 2) (f := 84) (co := 0) (as := [.inl (M6 9 1), .inl (M6 9 2)]) (st' := [.inl (x5), .inr (.inl (some 13))]) rfl rfl rfl rfl rfl rfl rfl rfl rfl (Nat.zero_le _) rfl (am_CC_le (Nat.le_of_ble_eq_true rfl) (tm_X5_roundedUp h)) (fun r M8 q => ?_) (fun _ _ q => q.elim)
        obtain ⟨x7, rfl, h⟩ := q
        obtain ⟨c0_0, h⟩ := h
        refine am_Wrun 3 (ps := [0 ≤ (x5 : Int) ∧ (x5 : Int) < 3600]) (pc' := 25) (lv' := [(2, .inl (v2 + 1)), (0, .inr (.inl (some 10))), (1, .inl (v1))]) (st' := []) (M' := (am_up M8 13 x5 x7)) rfl ⟨c0_0, trivial⟩ ?_
        refine am_W_sub [1, 2, 0] rfl ?_
        exact tw_X4_findNeeds_25 hk10 n v1 (v2 + 1) (am_up M8 13 x5 x7) h
set_option maxRecDepth 20000 in
theorem tw_X4_findNeeds_10 {Q : am_M → Prop} {QX : am_X} : ∀ (n : Nat) (v1 : Int) (M : am_M), wl_X4_findNeeds_10 Q n v1 M → am_W (am_CC 2) dt_X4_findNeeds 2 0 none (am_QV Q) QX (0, 10, [(0, .inr (.inl (some 10))), (1, .inl (v1))], [], M)
  | 0, _, _, h => h.elim
  | n + 1, v1, M, h => by
    refine am_Wrun 4 (ps := []) (pc' := 18) (lv' := [(0, .inr (.inl (some 10))), (1, .inl (v1))]) (st' := [.inl (M 1 7), .inl (v1)]) (M' := M) rfl trivial ?_
    obtain ⟨b0, b1, ht, hf⟩ := h
    refine am_Wbr (P := [am_rg v1, am_rg (M 1 7)]) (c := (M 1 7) ≤ v1) (t := 97) (f := 21) (st' := []) rfl rfl ⟨b0, b1, trivial⟩ rfl (fun q => ?_) (fun q => ?_)
    · have h := ht q
      refine am_Wrun 3 (ps := [1 = 0 ∨ 1 = 1]) (pc' := 102) (lv' := [(0, .inr (.inl (some 10))), (1, .inl (v1))]) (st' := []) (M' := (am_up M 10 5 1)) rfl ⟨(Or.inr rfl), trivial⟩ ?_
      exact am_Wretv rfl rfl h
    · have h := hf q
      refine am_Wrun 4 (ps := []) (pc' := 25) (lv' := [(2, .inl (v1 + 1)), (0, .inr (.inl (some 10))), (1, .inl (v1))]) (st' := []) (M' := M) rfl trivial ?_
      refine am_W_sub [1, 2, 0] rfl ?_
      obtain ⟨n25, h⟩ := h
      exact tw_X4_findNeeds_25 (tw_X4_findNeeds_10 n) n25 v1 (v1 + 1) M h
set_option maxRecDepth 20000 in
theorem tm_X4_findNeeds {M : am_M} {Q : am_M → Prop} (h : wp_X4_findNeeds M Q) : am_CC 3 21 [.inr (.inl (some 10))] M (am_QV Q) (fun _ _ => False) := by
  refine ⟨Nat.le_of_ble_eq_true rfl, ?_⟩
  show am_W (am_CC 2) dt_X4_findNeeds 2 0 none (am_QV Q) (am_qx 21 (fun _ _ => False)) (0, 0, [(0, .inr (.inl (some 10)))], [], M)
  refine am_Wrun 2 (ps := []) (pc' := 4) (lv' := [(0, .inr (.inl (some 10)))]) (st' := [.inl (M 10 5)]) (M' := M) rfl trivial ?_
  obtain ⟨b0, ht, hf⟩ := h
  refine am_Wbr (P := [am_rg (M 10 5)]) (c := (M 10 5) = 0) (t := 8) (f := 7) (st' := []) rfl rfl ⟨b0, trivial⟩ rfl (fun q => ?_) (fun q => ?_)
  · have h := ht q
    refine am_Wrun 2 (ps := []) (pc' := 10) (lv' := [(1, .inl (0)), (0, .inr (.inl (some 10)))]) (st' := []) (M' := M) rfl trivial ?_
    refine am_W_sub [1, 0] rfl ?_
    obtain ⟨n10, h⟩ := h
    exact tw_X4_findNeeds_10 n10 0 M h
  · have h := hf q
    exact am_Wretv rfl rfl h
abbrev dt_X4_fewestBehind : am_D := (tk_X4_fewestBehind, 4, 7, some .int, tb_hn 26)
def wj_X4_fewestBehind_94 (Q : Int → am_M → Prop) (k37 : Int → Int → Int → Int → Int → am_M → Prop) (v2 : Int) (v3 : Int) (v4 : Int) (v6 : Int) (M : am_M) : Prop := (0 ≤ (v6 : Int) ∧ (v6 : Int) < 60) ∧ (k37 v2 v3 v4 (M 12 v6) (v6 + 1) M)
def wl_X4_fewestBehind_37 (Q : Int → am_M → Prop) : Nat → Int → Int → Int → Int → Int → am_M → Prop
  | 0, _, _, _, _, _, _ => False
  | n + 1, v2, v3, v4, v5, v6, M => (am_rg v6) ∧ (am_rg (M 1 7)) ∧ ((M 1 7) ≤ v6 → Q v5 M) ∧ (¬ (M 1 7) ≤ v6 → (0 ≤ (v6 : Int) ∧ (v6 : Int) < 60) ∧ ((am_rg (M 5 v6)) ∧ (am_rg v3) ∧ (¬ (M 5 v6) = v3 → Q v5 M) ∧ (¬ (¬ (M 5 v6) = v3) → (0 ≤ (v4 + v6 : Int) ∧ (v4 + v6 : Int) < 3600) ∧ ((am_rg (M 13 (v4 + v6))) ∧ (am_rg v2) ∧ (v2 < (M 13 (v4 + v6)) → wl_X4_fewestBehind_37 Q n v2 v3 v4 v5 (v6 + 1) M) ∧ (¬ v2 < (M 13 (v4 + v6)) → (am_rg v5) ∧ (v5 = 0 → wj_X4_fewestBehind_94 Q (wl_X4_fewestBehind_37 Q n) v2 v3 v4 v6 M) ∧ (¬ v5 = 0 → (0 ≤ (v6 : Int) ∧ (v6 : Int) < 60) ∧ ((am_rg (M 12 v6)) ∧ (am_rg v5) ∧ (v5 ≤ (M 12 v6) → wl_X4_fewestBehind_37 Q n v2 v3 v4 v5 (v6 + 1) M) ∧ (¬ v5 ≤ (M 12 v6) → wj_X4_fewestBehind_94 Q (wl_X4_fewestBehind_37 Q n) v2 v3 v4 v6 M))))))))
def wp_X4_fewestBehind (a0 : Int) (a1 : Int) (M : am_M) (Q : Int → am_M → Prop) : Prop := wp_X2_hasPoint a0 M (fun x1 M2 => (am_rg x1) ∧ (¬ x1 = 0 → (0 ≤ (a0 : Int) ∧ (a0 : Int) < 60) ∧ (∃ e37, wl_X4_fewestBehind_37 Q e37 a1 (M2 5 a0) (a0 * 60) 0 (a0 + 1) M2)) ∧ (¬ (¬ x1 = 0) → Q 0 M2))
set_option maxRecDepth 20000 in
theorem tj_X4_fewestBehind_94 {Q : Int → am_M → Prop} {QX : am_X} {k37 : Int → Int → Int → Int → Int → am_M → Prop} (hk37 : ∀ (v2 : Int) (v3 : Int) (v4 : Int) (v5 : Int) (v6 : Int) (M : am_M), k37 v2 v3 v4 v5 v6 M → am_W (am_CC 1) dt_X4_fewestBehind 1 0 none (am_QI Q) QX (0, 37, [(0, .inr (.inl (some 10))), (2, .inl (v2)), (3, .inl (v3)), (4, .inl (v4)), (5, .inl (v5)), (6, .inl (v6))], [], M)) (v2 : Int) (v3 : Int) (v4 : Int) (v6 : Int) (M : am_M) (h : wj_X4_fewestBehind_94 Q k37 v2 v3 v4 v6 M) : am_W (am_CC 1) dt_X4_fewestBehind 1 0 none (am_QI Q) QX (0, 94, [(0, .inr (.inl (some 10))), (2, .inl (v2)), (3, .inl (v3)), (4, .inl (v4)), (6, .inl (v6))], [], M) := by
  obtain ⟨c0_0, h⟩ := h
  refine am_Wrun 7 (ps := [0 ≤ (v6 : Int) ∧ (v6 : Int) < 60]) (pc' := 37) (lv' := [(6, .inl (v6 + 1)), (5, .inl (M 12 v6)), (0, .inr (.inl (some 10))), (2, .inl (v2)), (3, .inl (v3)), (4, .inl (v4))]) (st' := []) (M' := M) rfl ⟨c0_0, trivial⟩ ?_
  refine am_W_sub [2, 3, 4, 5, 1, 0] rfl ?_
  exact hk37 v2 v3 v4 (M 12 v6) (v6 + 1) M h
set_option maxRecDepth 20000 in
theorem tw_X4_fewestBehind_37 {Q : Int → am_M → Prop} {QX : am_X} : ∀ (n : Nat) (v2 : Int) (v3 : Int) (v4 : Int) (v5 : Int) (v6 : Int) (M : am_M), wl_X4_fewestBehind_37 Q n v2 v3 v4 v5 v6 M → am_W (am_CC 1) dt_X4_fewestBehind 1 0 none (am_QI Q) QX (0, 37, [(0, .inr (.inl (some 10))), (2, .inl (v2)), (3, .inl (v3)), (4, .inl (v4)), (5, .inl (v5)), (6, .inl (v6))], [], M)
  | 0, _, _, _, _, _, _, h => h.elim
  | n + 1, v2, v3, v4, v5, v6, M, h => by
    refine am_Wrun 4 (ps := []) (pc' := 46) (lv' := [(0, .inr (.inl (some 10))), (2, .inl (v2)), (3, .inl (v3)), (4, .inl (v4)), (5, .inl (v5)), (6, .inl (v6))]) (st' := [.inl (M 1 7), .inl (v6)]) (M' := M) rfl trivial ?_
    obtain ⟨b0, b1, ht, hf⟩ := h
    refine am_Wbr (P := [am_rg v6, am_rg (M 1 7)]) (c := (M 1 7) ≤ v6) (t := 109) (f := 49) (st' := []) rfl rfl ⟨b0, b1, trivial⟩ rfl (fun q => ?_) (fun q => ?_)
    · have h := ht q
      refine am_Wrun 1 (ps := []) (pc' := 111) (lv' := [(0, .inr (.inl (some 10))), (2, .inl (v2)), (3, .inl (v3)), (4, .inl (v4)), (5, .inl (v5)), (6, .inl (v6))]) (st' := [.inl (v5)]) (M' := M) rfl trivial ?_
      exact am_Wreti rfl rfl h
    · have h := hf q
      obtain ⟨c0_0, h⟩ := h
      refine am_Wrun 6 (ps := [0 ≤ (v6 : Int) ∧ (v6 : Int) < 60]) (pc' := 60) (lv' := [(0, .inr (.inl (some 10))), (2, .inl (v2)), (3, .inl (v3)), (4, .inl (v4)), (5, .inl (v5)), (6, .inl (v6))]) (st' := [.inl (v3), .inl (M 5 v6)]) (M' := M) rfl ⟨c0_0, trivial⟩ ?_
      obtain ⟨b0, b1, ht, hf⟩ := h
      refine am_Wbr (P := [am_rg (M 5 v6), am_rg v3]) (c := ¬ (M 5 v6) = v3) (t := 109) (f := 63) (st' := []) rfl rfl ⟨b0, b1, trivial⟩ rfl (fun q => ?_) (fun q => ?_)
      · have h := ht q
        refine am_Wrun 1 (ps := []) (pc' := 111) (lv' := [(0, .inr (.inl (some 10))), (2, .inl (v2)), (3, .inl (v3)), (4, .inl (v4)), (5, .inl (v5)), (6, .inl (v6))]) (st' := [.inl (v5)]) (M' := M) rfl trivial ?_
        exact am_Wreti rfl rfl h
      · have h := hf q
        obtain ⟨c0_0, h⟩ := h
        refine am_Wrun 7 (ps := [0 ≤ (v4 + v6 : Int) ∧ (v4 + v6 : Int) < 3600]) (pc' := 74) (lv' := [(0, .inr (.inl (some 10))), (2, .inl (v2)), (3, .inl (v3)), (4, .inl (v4)), (5, .inl (v5)), (6, .inl (v6))]) (st' := [.inl (v2), .inl (M 13 (v4 + v6))]) (M' := M) rfl ⟨c0_0, trivial⟩ ?_
        obtain ⟨b0, b1, ht, hf⟩ := h
        refine am_Wbr (P := [am_rg (M 13 (v4 + v6)), am_rg v2]) (c := v2 < (M 13 (v4 + v6))) (t := 103) (f := 77) (st' := []) rfl rfl ⟨b0, b1, trivial⟩ rfl (fun q => ?_) (fun q => ?_)
        · have h := ht q
          refine am_Wrun 2 (ps := []) (pc' := 37) (lv' := [(6, .inl (v6 + 1)), (0, .inr (.inl (some 10))), (2, .inl (v2)), (3, .inl (v3)), (4, .inl (v4)), (5, .inl (v5))]) (st' := []) (M' := M) rfl trivial ?_
          refine am_W_sub [1, 2, 3, 4, 5, 0] rfl ?_
          exact tw_X4_fewestBehind_37 n v2 v3 v4 v5 (v6 + 1) M h
        · have h := hf q
          refine am_Wrun 1 (ps := []) (pc' := 79) (lv' := [(0, .inr (.inl (some 10))), (2, .inl (v2)), (3, .inl (v3)), (4, .inl (v4)), (5, .inl (v5)), (6, .inl (v6))]) (st' := [.inl (v5)]) (M' := M) rfl trivial ?_
          obtain ⟨b0, ht, hf⟩ := h
          refine am_Wbr (P := [am_rg v5]) (c := v5 = 0) (t := 94) (f := 82) (st' := []) rfl rfl ⟨b0, trivial⟩ rfl (fun q => ?_) (fun q => ?_)
          · have h := ht q
            refine am_W_sub [0, 1, 2, 3, 5] rfl ?_
            exact tj_X4_fewestBehind_94 (tw_X4_fewestBehind_37 n) v2 v3 v4 v6 M h
          · have h := hf q
            obtain ⟨c0_0, h⟩ := h
            refine am_Wrun 5 (ps := [0 ≤ (v6 : Int) ∧ (v6 : Int) < 60]) (pc' := 91) (lv' := [(0, .inr (.inl (some 10))), (2, .inl (v2)), (3, .inl (v3)), (4, .inl (v4)), (5, .inl (v5)), (6, .inl (v6))]) (st' := [.inl (v5), .inl (M 12 v6)]) (M' := M) rfl ⟨c0_0, trivial⟩ ?_
            obtain ⟨b0, b1, ht, hf⟩ := h
            refine am_Wbr (P := [am_rg (M 12 v6), am_rg v5]) (c := v5 ≤ (M 12 v6)) (t := 103) (f := 94) (st' := []) rfl rfl ⟨b0, b1, trivial⟩ rfl (fun q => ?_) (fun q => ?_)
            · have h := ht q
              refine am_Wrun 2 (ps := []) (pc' := 37) (lv' := [(6, .inl (v6 + 1)), (0, .inr (.inl (some 10))), (2, .inl (v2)), (3, .inl (v3)), (4, .inl (v4)), (5, .inl (v5))]) (st' := []) (M' := M) rfl trivial ?_
              refine am_W_sub [1, 2, 3, 4, 5, 0] rfl ?_
              exact tw_X4_fewestBehind_37 n v2 v3 v4 v5 (v6 + 1) M h
            · have h := hf q
              refine am_W_sub [0, 1, 2, 3, 5] rfl ?_
              exact tj_X4_fewestBehind_94 (tw_X4_fewestBehind_37 n) v2 v3 v4 v6 M h
set_option maxRecDepth 20000 in
theorem tm_X4_fewestBehind {a0 a1 : Int} {M : am_M} {Q : Int → am_M → Prop} (h : wp_X4_fewestBehind a0 a1 M Q) : am_CC 2 26 [.inr (.inl (some 10)), .inl (a0), .inl (a1)] M (am_QI Q) (fun _ _ => False) := by
  refine ⟨Nat.le_of_ble_eq_true rfl, ?_⟩
  show am_W (am_CC 1) dt_X4_fewestBehind 1 0 none (am_QI Q) (am_qx 26 (fun _ _ => False)) (0, 0, [(0, .inr (.inl (some 10))), (1, .inl (a0)), (2, .inl (a1))], [], M)
  refine am_Wrun 3 (ps := []) (pc' := 5) (lv' := [(0, .inr (.inl (some 10))), (1, .inl (a0)), (2, .inl (a1))]) (st' := [.inl (a0), .inr (.inl (some 1))]) (M' := M) rfl trivial ?_
  refine am_WcallV (y := 9) (n := 2) (a := 1) (f := 8) (as := [.inl (a0)]) (st' := []) rfl rfl rfl rfl rfl rfl rfl rfl rfl rfl (Nat.zero_le _) rfl (am_CC_le (Nat.le_of_ble_eq_true rfl) (tm_X2_hasPoint h)) (fun r M2 q => ?_) (fun _ _ q => q.elim)
  obtain ⟨x1, rfl, h⟩ := q
  obtain ⟨b0, ht, hf⟩ := h
  refine am_Wbr (P := [am_rg x1]) (c := ¬ x1 = 0) (t := 13) (f := 11) (st' := []) rfl rfl ⟨b0, trivial⟩ rfl (fun q => ?_) (fun q => ?_)
  · have h := ht q
    obtain ⟨c0_0, h⟩ := h
    refine am_Wrun 16 (ps := [0 ≤ (a0 : Int) ∧ (a0 : Int) < 60, -128 ≤ (60 : Int) ∧ (60 : Int) ≤ 127]) (pc' := 37) (lv' := [(6, .inl (a0 + 1)), (5, .inl (0)), (4, .inl (a0 * 60)), (3, .inl (M2 5 a0)), (0, .inr (.inl (some 10))), (1, .inl (a0)), (2, .inl (a1))]) (st' := []) (M' := M2) rfl ⟨c0_0, ⟨by decide, by decide⟩, trivial⟩ ?_
    refine am_W_sub [4, 6, 3, 2, 1, 0] rfl ?_
    obtain ⟨n37, h⟩ := h
    exact tw_X4_fewestBehind_37 n37 a1 (M2 5 a0) (a0 * 60) 0 (a0 + 1) M2 h
  · have h := hf q
    refine am_Wrun 1 (ps := []) (pc' := 12) (lv' := [(0, .inr (.inl (some 10))), (1, .inl (a0)), (2, .inl (a1))]) (st' := [.inl (0)]) (M' := M2) rfl trivial ?_
    exact am_Wreti rfl rfl h
abbrev dt_X2_beginsStretch : am_D := (tk_X2_beginsStretch, 2, 2, some .boolean, tb_hn 27)
def wp_X2_beginsStretch (a0 : Int) (M : am_M) (Q : Int → am_M → Prop) : Prop := wp_X2_sameStretch (a0 - 1) a0 M (fun x1 M2 => (am_rg x1) ∧ (¬ x1 = 0 → Q 0 M2) ∧ (¬ (¬ x1 = 0) → Q 1 M2))
set_option maxRecDepth 20000 in
theorem tm_X2_beginsStretch {a0 : Int} {M : am_M} {Q : Int → am_M → Prop} (h : wp_X2_beginsStretch a0 M Q) : am_CC 2 27 [.inr (.inl (some 1)), .inl (a0)] M (am_QI Q) (fun _ _ => False) := by
  refine ⟨Nat.le_of_ble_eq_true rfl, ?_⟩
  show am_W (am_CC 1) dt_X2_beginsStretch 1 0 none (am_QI Q) (am_qx 27 (fun _ _ => False)) (0, 0, [(0, .inr (.inl (some 1))), (1, .inl (a0))], [], M)
  refine am_Wrun 5 (ps := []) (pc' := 5) (lv' := [(0, .inr (.inl (some 1))), (1, .inl (a0))]) (st' := [.inl (a0), .inl (a0 - 1), .inr (.inl (some 1))]) (M' := M) rfl trivial ?_
  refine am_WcallV (y := 12) (n := 3) (a := 1) (f := 8) (as := [.inl (a0 - 1), .inl (a0)]) (st' := []) rfl rfl rfl rfl rfl rfl rfl rfl rfl rfl (Nat.zero_le _) rfl (am_CC_le (Nat.le_of_ble_eq_true rfl) (tm_X2_sameStretch h)) (fun r M2 q => ?_) (fun _ _ q => q.elim)
  obtain ⟨x1, rfl, h⟩ := q
  obtain ⟨b0, ht, hf⟩ := h
  refine am_Wbr (P := [am_rg x1]) (c := ¬ x1 = 0) (t := 15) (f := 11) (st' := []) rfl rfl ⟨b0, trivial⟩ rfl (fun q => ?_) (fun q => ?_)
  · have h := ht q
    refine am_Wrun 1 (ps := []) (pc' := 16) (lv' := [(0, .inr (.inl (some 1))), (1, .inl (a0))]) (st' := [.inl (0)]) (M' := M2) rfl trivial ?_
    exact am_Wretz rfl rfl (Or.inl rfl) h
  · have h := hf q
    refine am_Wrun 2 (ps := []) (pc' := 16) (lv' := [(0, .inr (.inl (some 1))), (1, .inl (a0))]) (st' := [.inl (1)]) (M' := M2) rfl trivial ?_
    exact am_Wretz rfl rfl (Or.inr rfl) h
abbrev dt_X4_findFewest : am_D := (tk_X4_findFewest, 4, 5, some .int, tb_hn 25)
def wl_X4_findFewest_12 (Q : Int → am_M → Prop) : Nat → Int → Int → Int → am_M → Prop
  | 0, _, _, _, _ => False
  | n + 1, v1, v2, v3, M => (am_rg v3) ∧ (v3 < 0 → Q v2 M) ∧ (¬ v3 < 0 → wp_X4_fewestBehind v3 v1 M (fun x1 M2 => (0 ≤ (v3 : Int) ∧ (v3 : Int) < 60) ∧ (wp_X2_beginsStretch v3 (am_up M2 12 v3 (x1 + 1)) (fun x3 M4 => (am_rg x3) ∧ (x3 = 0 → wl_X4_findFewest_12 Q n v1 v2 (v3 + (-1)) M4) ∧ (¬ x3 = 0 → (0 ≤ (v3 : Int) ∧ (v3 : Int) < 60) ∧ (wl_X4_findFewest_12 Q n v1 (v2 + (M4 12 v3)) (v3 + (-1)) M4))))))
def wp_X4_findFewest (a0 : Int) (M : am_M) (Q : Int → am_M → Prop) : Prop := ∃ e12, wl_X4_findFewest_12 Q e12 a0 0 ((M 1 7) - 1) M
set_option maxRecDepth 20000 in
theorem tw_X4_findFewest_12 {Q : Int → am_M → Prop} {QX : am_X} : ∀ (n : Nat) (v1 : Int) (v2 : Int) (v3 : Int) (M : am_M), wl_X4_findFewest_12 Q n v1 v2 v3 M → am_W (am_CC 2) dt_X4_findFewest 2 0 none (am_QI Q) QX (0, 12, [(0, .inr (.inl (some 10))), (1, .inl (v1)), (2, .inl (v2)), (3, .inl (v3))], [], M)
  | 0, _, _, _, _, h => h.elim
  | n + 1, v1, v2, v3, M, h => by
    refine am_Wrun 1 (ps := []) (pc' := 13) (lv' := [(0, .inr (.inl (some 10))), (1, .inl (v1)), (2, .inl (v2)), (3, .inl (v3))]) (st' := [.inl (v3)]) (M' := M) rfl trivial ?_
    obtain ⟨b0, ht, hf⟩ := h
    refine am_Wbr (P := [am_rg v3]) (c := v3 < 0) (t := 60) (f := 16) (st' := []) rfl rfl ⟨b0, trivial⟩ rfl (fun q => ?_) (fun q => ?_)
    · have h := ht q
      refine am_Wrun 1 (ps := []) (pc' := 61) (lv' := [(0, .inr (.inl (some 10))), (1, .inl (v1)), (2, .inl (v2)), (3, .inl (v3))]) (st' := [.inl (v2)]) (M' := M) rfl trivial ?_
      exact am_Wreti rfl rfl h
    · have h := hf q
      refine am_Wrun 3 (ps := []) (pc' := 19) (lv' := [(0, .inr (.inl (some 10))), (1, .inl (v1)), (2, .inl (v2)), (3, .inl (v3))]) (st' := [.inl (v1), .inl (v3), .inr (.inl (some 10))]) (M' := M) rfl trivial ?_
      refine am_WcallV (y := 26) (n := 3) (a := 10) (f := 22) (as := [.inl (v3), .inl (v1)]) (st' := []) rfl rfl rfl rfl rfl rfl rfl rfl rfl rfl (Nat.zero_le _) rfl (am_CC_le (Nat.le_of_ble_eq_true rfl) (tm_X4_fewestBehind h)) (fun r M2 q => ?_) (fun _ _ q => q.elim)
      obtain ⟨x1, rfl, h⟩ := q
      obtain ⟨c0_0, h⟩ := h
      refine am_Wrun 11 (ps := [0 ≤ (v3 : Int) ∧ (v3 : Int) < 60]) (pc' := 39) (lv' := [(4, .inl (x1)), (0, .inr (.inl (some 10))), (1, .inl (v1)), (2, .inl (v2)), (3, .inl (v3))]) (st' := [.inl (v3), .inr (.inl (some 1))]) (M' := (am_up M2 12 v3 (x1 + 1))) rfl ⟨c0_0, trivial⟩ ?_
      refine am_WcallV (y := 27) (n := 2) (a := 1) (f := 42) (as := [.inl (v3)]) (st' := []) rfl rfl rfl rfl rfl rfl rfl rfl rfl rfl (Nat.zero_le _) rfl (am_CC_le (Nat.le_of_ble_eq_true rfl) (tm_X2_beginsStretch h)) (fun r M4 q => ?_) (fun _ _ q => q.elim)
      obtain ⟨x3, rfl, h⟩ := q
      obtain ⟨b0, ht, hf⟩ := h
      refine am_Wbr (P := [am_rg x3]) (c := x3 = 0) (t := 54) (f := 45) (st' := []) rfl rfl ⟨b0, trivial⟩ rfl (fun q => ?_) (fun q => ?_)
      · have h := ht q
        refine am_Wrun 2 (ps := []) (pc' := 12) (lv' := [(3, .inl (v3 + (-1))), (4, .inl (x1)), (0, .inr (.inl (some 10))), (1, .inl (v1)), (2, .inl (v2))]) (st' := []) (M' := M4) rfl trivial ?_
        refine am_W_sub [2, 3, 4, 0] rfl ?_
        exact tw_X4_findFewest_12 n v1 v2 (v3 + (-1)) M4 h
      · have h := hf q
        obtain ⟨c0_0, h⟩ := h
        refine am_Wrun 9 (ps := [0 ≤ (v3 : Int) ∧ (v3 : Int) < 60]) (pc' := 12) (lv' := [(3, .inl (v3 + (-1))), (2, .inl (v2 + (M4 12 v3))), (4, .inl (x1)), (0, .inr (.inl (some 10))), (1, .inl (v1))]) (st' := []) (M' := M4) rfl ⟨c0_0, trivial⟩ ?_
        refine am_W_sub [3, 4, 1, 0] rfl ?_
        exact tw_X4_findFewest_12 n v1 (v2 + (M4 12 v3)) (v3 + (-1)) M4 h
set_option maxRecDepth 20000 in
theorem tm_X4_findFewest {a0 : Int} {M : am_M} {Q : Int → am_M → Prop} (h : wp_X4_findFewest a0 M Q) : am_CC 3 25 [.inr (.inl (some 10)), .inl (a0)] M (am_QI Q) (fun _ _ => False) := by
  refine ⟨Nat.le_of_ble_eq_true rfl, ?_⟩
  show am_W (am_CC 2) dt_X4_findFewest 2 0 none (am_QI Q) (am_qx 25 (fun _ _ => False)) (0, 0, [(0, .inr (.inl (some 10))), (1, .inl (a0))], [], M)
  refine am_Wrun 8 (ps := []) (pc' := 12) (lv' := [(3, .inl ((M 1 7) - 1)), (2, .inl (0)), (0, .inr (.inl (some 10))), (1, .inl (a0))]) (st' := []) (M' := M) rfl trivial ?_
  refine am_W_sub [2, 3, 1, 0] rfl ?_
  obtain ⟨n12, h⟩ := h
  exact tw_X4_findFewest_12 n12 a0 0 ((M 1 7) - 1) M h
abbrev dt_X2_firstOf : am_D := (tk_X2_firstOf, 2, 3, some .int, tb_hn 36)
def wl_X2_firstOf_2 (Q : Int → am_M → Prop) : Nat → Int → Int → am_M → Prop
  | 0, _, _, _ => False
  | n + 1, v1, v2, M => (am_rg v2) ∧ (am_rg (M 1 7)) ∧ ((M 1 7) ≤ v2 → Q (-1000000) M) ∧ (¬ (M 1 7) ≤ v2 → (0 ≤ (v2 : Int) ∧ (v2 : Int) < 60) ∧ ((am_rg (M 5 v2)) ∧ (am_rg v1) ∧ (¬ (M 5 v2) = v1 → wl_X2_firstOf_2 Q n v1 (v2 + 1) M) ∧ (¬ (¬ (M 5 v2) = v1) → Q v2 M)))
def wp_X2_firstOf (a0 : Int) (M : am_M) (Q : Int → am_M → Prop) : Prop := ∃ e2, wl_X2_firstOf_2 Q e2 a0 0 M
set_option maxRecDepth 20000 in
theorem tw_X2_firstOf_2 {Q : Int → am_M → Prop} {QX : am_X} : ∀ (n : Nat) (v1 : Int) (v2 : Int) (M : am_M), wl_X2_firstOf_2 Q n v1 v2 M → am_W (am_CC 0) dt_X2_firstOf 0 0 none (am_QI Q) QX (0, 2, [(0, .inr (.inl (some 1))), (1, .inl (v1)), (2, .inl (v2))], [], M)
  | 0, _, _, _, h => h.elim
  | n + 1, v1, v2, M, h => by
    refine am_Wrun 3 (ps := []) (pc' := 7) (lv' := [(0, .inr (.inl (some 1))), (1, .inl (v1)), (2, .inl (v2))]) (st' := [.inl (M 1 7), .inl (v2)]) (M' := M) rfl trivial ?_
    obtain ⟨b0, b1, ht, hf⟩ := h
    refine am_Wbr (P := [am_rg v2, am_rg (M 1 7)]) (c := (M 1 7) ≤ v2) (t := 28) (f := 10) (st' := []) rfl rfl ⟨b0, b1, trivial⟩ rfl (fun q => ?_) (fun q => ?_)
    · have h := ht q
      refine am_Wrun 1 (ps := []) (pc' := 30) (lv' := [(0, .inr (.inl (some 1))), (1, .inl (v1)), (2, .inl (v2))]) (st' := [.inl ((-1000000))]) (M' := M) rfl trivial ?_
      exact am_Wreti rfl rfl h
    · have h := hf q
      obtain ⟨c0_0, h⟩ := h
      refine am_Wrun 5 (ps := [0 ≤ (v2 : Int) ∧ (v2 : Int) < 60]) (pc' := 17) (lv' := [(0, .inr (.inl (some 1))), (1, .inl (v1)), (2, .inl (v2))]) (st' := [.inl (v1), .inl (M 5 v2)]) (M' := M) rfl ⟨c0_0, trivial⟩ ?_
      obtain ⟨b0, b1, ht, hf⟩ := h
      refine am_Wbr (P := [am_rg (M 5 v2), am_rg v1]) (c := ¬ (M 5 v2) = v1) (t := 22) (f := 20) (st' := []) rfl rfl ⟨b0, b1, trivial⟩ rfl (fun q => ?_) (fun q => ?_)
      · have h := ht q
        refine am_Wrun 2 (ps := []) (pc' := 2) (lv' := [(2, .inl (v2 + 1)), (0, .inr (.inl (some 1))), (1, .inl (v1))]) (st' := []) (M' := M) rfl trivial ?_
        refine am_W_sub [1, 2, 0] rfl ?_
        exact tw_X2_firstOf_2 n v1 (v2 + 1) M h
      · have h := hf q
        refine am_Wrun 1 (ps := []) (pc' := 21) (lv' := [(0, .inr (.inl (some 1))), (1, .inl (v1)), (2, .inl (v2))]) (st' := [.inl (v2)]) (M' := M) rfl trivial ?_
        exact am_Wreti rfl rfl h
set_option maxRecDepth 20000 in
theorem tm_X2_firstOf {a0 : Int} {M : am_M} {Q : Int → am_M → Prop} (h : wp_X2_firstOf a0 M Q) : am_CC 1 36 [.inr (.inl (some 1)), .inl (a0)] M (am_QI Q) (fun _ _ => False) := by
  refine ⟨Nat.le_of_ble_eq_true rfl, ?_⟩
  show am_W (am_CC 0) dt_X2_firstOf 0 0 none (am_QI Q) (am_qx 36 (fun _ _ => False)) (0, 0, [(0, .inr (.inl (some 1))), (1, .inl (a0))], [], M)
  refine am_Wrun 2 (ps := []) (pc' := 2) (lv' := [(2, .inl (0)), (0, .inr (.inl (some 1))), (1, .inl (a0))]) (st' := []) (M' := M) rfl trivial ?_
  refine am_W_sub [1, 2, 0] rfl ?_
  obtain ⟨n2, h⟩ := h
  exact tw_X2_firstOf_2 n2 a0 0 M h
abbrev dt_X4_fewestOf : am_D := (tk_X4_fewestOf, 4, 3, some .int, tb_hn 50)
def wp_X4_fewestOf (a0 : Int) (M : am_M) (Q : Int → am_M → Prop) : Prop := wp_X4_findNeeds M (fun M1 => wp_X4_findFewest (M1 6 0) M1 (fun x2 M3 => wp_X2_firstOf a0 M3 (fun x4 M5 => wp_X2_hasPoint x4 M5 (fun x6 M7 => (am_rg x6) ∧ (x6 = 0 → Q 0 M7) ∧ (¬ x6 = 0 → (0 ≤ (x4 : Int) ∧ (x4 : Int) < 60) ∧ (Q (M7 12 x4) M7))))))
set_option maxRecDepth 20000 in
theorem tm_X4_fewestOf {a0 : Int} {M : am_M} {Q : Int → am_M → Prop} (h : wp_X4_fewestOf a0 M Q) : am_CC 4 50 [.inr (.inl (some 10)), .inl (a0)] M (am_QI Q) (fun _ _ => False) := by
  refine ⟨Nat.le_of_ble_eq_true rfl, ?_⟩
  show am_W (am_CC 3) dt_X4_fewestOf 3 0 none (am_QI Q) (am_qx 50 (fun _ _ => False)) (0, 0, [(0, .inr (.inl (some 10))), (1, .inl (a0))], [], M)
  refine am_Wrun 1 (ps := []) (pc' := 1) (lv' := [(0, .inr (.inl (some 10))), (1, .inl (a0))]) (st' := [.inr (.inl (some 10))]) (M' := M) rfl trivial ?_
  refine am_WcallV (y := 21) (n := 1) (a := 10) (f := 4) (as := []) (st' := []) rfl rfl rfl rfl rfl rfl rfl rfl rfl rfl (Nat.zero_le _) rfl (am_CC_le (Nat.le_of_ble_eq_true rfl) (tm_X4_findNeeds h)) (fun r M1 q => ?_) (fun _ _ q => q.elim)
  obtain ⟨rfl, h⟩ := q
  refine am_Wrun 6 (ps := [0 ≤ (0 : Int) ∧ (0 : Int) < 3]) (pc' := 14) (lv' := [(0, .inr (.inl (some 10))), (1, .inl (a0))]) (st' := [.inl (M1 6 0), .inr (.inl (some 10))]) (M' := M1) rfl ⟨⟨by decide, by decide⟩, trivial⟩ ?_
  refine am_WcallV (y := 25) (n := 2) (a := 10) (f := 17) (as := [.inl (M1 6 0)]) (st' := []) rfl rfl rfl rfl rfl rfl rfl rfl rfl rfl (Nat.zero_le _) rfl (am_CC_le (Nat.le_of_ble_eq_true rfl) (tm_X4_findFewest h)) (fun r M3 q => ?_) (fun _ _ q => q.elim)
  obtain ⟨x2, rfl, h⟩ := q
  refine am_Wrun 4 (ps := []) (pc' := 23) (lv' := [(0, .inr (.inl (some 10))), (1, .inl (a0))]) (st' := [.inl (a0), .inr (.inl (some 1))]) (M' := M3) rfl trivial ?_
  refine am_WcallV (y := 36) (n := 2) (a := 1) (f := 26) (as := [.inl (a0)]) (st' := []) rfl rfl rfl rfl rfl rfl rfl rfl rfl rfl (Nat.zero_le _) rfl (am_CC_le (Nat.le_of_ble_eq_true rfl) (tm_X2_firstOf h)) (fun r M5 q => ?_) (fun _ _ q => q.elim)
  obtain ⟨x4, rfl, h⟩ := q
  refine am_Wrun 4 (ps := []) (pc' := 32) (lv' := [(2, .inl (x4)), (0, .inr (.inl (some 10))), (1, .inl (a0))]) (st' := [.inl (x4), .inr (.inl (some 1))]) (M' := M5) rfl trivial ?_
  refine am_WcallV (y := 9) (n := 2) (a := 1) (f := 35) (as := [.inl (x4)]) (st' := []) rfl rfl rfl rfl rfl rfl rfl rfl rfl rfl (Nat.zero_le _) rfl (am_CC_le (Nat.le_of_ble_eq_true rfl) (tm_X2_hasPoint h)) (fun r M7 q => ?_) (fun _ _ q => q.elim)
  obtain ⟨x6, rfl, h⟩ := q
  obtain ⟨b0, ht, hf⟩ := h
  refine am_Wbr (P := [am_rg x6]) (c := x6 = 0) (t := 47) (f := 38) (st' := []) rfl rfl ⟨b0, trivial⟩ rfl (fun q => ?_) (fun q => ?_)
  · have h := ht q
    refine am_Wrun 1 (ps := []) (pc' := 48) (lv' := [(2, .inl (x4)), (0, .inr (.inl (some 10))), (1, .inl (a0))]) (st' := [.inl (0)]) (M' := M7) rfl trivial ?_
    exact am_Wreti rfl rfl h
  · have h := hf q
    obtain ⟨c0_0, h⟩ := h
    refine am_Wrun 5 (ps := [0 ≤ (x4 : Int) ∧ (x4 : Int) < 60]) (pc' := 48) (lv' := [(2, .inl (x4)), (0, .inr (.inl (some 10))), (1, .inl (a0))]) (st' := [.inl (M7 12 x4)]) (M' := M7) rfl ⟨c0_0, trivial⟩ ?_
    exact am_Wreti rfl rfl h
abbrev dt_X2_sizeOf : am_D := (tk_X2_sizeOf, 2, 4, some .int, tb_hn 35)
def wl_X2_sizeOf_4 (Q : Int → am_M → Prop) : Nat → Int → Int → Int → am_M → Prop
  | 0, _, _, _, _ => False
  | n + 1, v1, v2, v3, M => (am_rg v3) ∧ (am_rg (M 1 7)) ∧ ((M 1 7) ≤ v3 → Q v2 M) ∧ (¬ (M 1 7) ≤ v3 → (0 ≤ (v3 : Int) ∧ (v3 : Int) < 60) ∧ ((am_rg (M 5 v3)) ∧ (am_rg v1) ∧ (¬ (M 5 v3) = v1 → wl_X2_sizeOf_4 Q n v1 v2 (v3 + 1) M) ∧ (¬ (¬ (M 5 v3) = v1) → wl_X2_sizeOf_4 Q n v1 (v2 + 1) (v3 + 1) M)))
def wp_X2_sizeOf (a0 : Int) (M : am_M) (Q : Int → am_M → Prop) : Prop := ∃ e4, wl_X2_sizeOf_4 Q e4 a0 0 0 M
set_option maxRecDepth 20000 in
theorem tw_X2_sizeOf_4 {Q : Int → am_M → Prop} {QX : am_X} : ∀ (n : Nat) (v1 : Int) (v2 : Int) (v3 : Int) (M : am_M), wl_X2_sizeOf_4 Q n v1 v2 v3 M → am_W (am_CC 0) dt_X2_sizeOf 0 0 none (am_QI Q) QX (0, 4, [(0, .inr (.inl (some 1))), (1, .inl (v1)), (2, .inl (v2)), (3, .inl (v3))], [], M)
  | 0, _, _, _, _, h => h.elim
  | n + 1, v1, v2, v3, M, h => by
    refine am_Wrun 3 (ps := []) (pc' := 9) (lv' := [(0, .inr (.inl (some 1))), (1, .inl (v1)), (2, .inl (v2)), (3, .inl (v3))]) (st' := [.inl (M 1 7), .inl (v3)]) (M' := M) rfl trivial ?_
    obtain ⟨b0, b1, ht, hf⟩ := h
    refine am_Wbr (P := [am_rg v3, am_rg (M 1 7)]) (c := (M 1 7) ≤ v3) (t := 31) (f := 12) (st' := []) rfl rfl ⟨b0, b1, trivial⟩ rfl (fun q => ?_) (fun q => ?_)
    · have h := ht q
      refine am_Wrun 1 (ps := []) (pc' := 32) (lv' := [(0, .inr (.inl (some 1))), (1, .inl (v1)), (2, .inl (v2)), (3, .inl (v3))]) (st' := [.inl (v2)]) (M' := M) rfl trivial ?_
      exact am_Wreti rfl rfl h
    · have h := hf q
      obtain ⟨c0_0, h⟩ := h
      refine am_Wrun 5 (ps := [0 ≤ (v3 : Int) ∧ (v3 : Int) < 60]) (pc' := 19) (lv' := [(0, .inr (.inl (some 1))), (1, .inl (v1)), (2, .inl (v2)), (3, .inl (v3))]) (st' := [.inl (v1), .inl (M 5 v3)]) (M' := M) rfl ⟨c0_0, trivial⟩ ?_
      obtain ⟨b0, b1, ht, hf⟩ := h
      refine am_Wbr (P := [am_rg (M 5 v3), am_rg v1]) (c := ¬ (M 5 v3) = v1) (t := 25) (f := 22) (st' := []) rfl rfl ⟨b0, b1, trivial⟩ rfl (fun q => ?_) (fun q => ?_)
      · have h := ht q
        refine am_Wrun 2 (ps := []) (pc' := 4) (lv' := [(3, .inl (v3 + 1)), (0, .inr (.inl (some 1))), (1, .inl (v1)), (2, .inl (v2))]) (st' := []) (M' := M) rfl trivial ?_
        refine am_W_sub [1, 2, 3, 0] rfl ?_
        exact tw_X2_sizeOf_4 n v1 v2 (v3 + 1) M h
      · have h := hf q
        refine am_Wrun 3 (ps := []) (pc' := 4) (lv' := [(3, .inl (v3 + 1)), (2, .inl (v2 + 1)), (0, .inr (.inl (some 1))), (1, .inl (v1))]) (st' := []) (M' := M) rfl trivial ?_
        refine am_W_sub [2, 3, 1, 0] rfl ?_
        exact tw_X2_sizeOf_4 n v1 (v2 + 1) (v3 + 1) M h
set_option maxRecDepth 20000 in
theorem tm_X2_sizeOf {a0 : Int} {M : am_M} {Q : Int → am_M → Prop} (h : wp_X2_sizeOf a0 M Q) : am_CC 1 35 [.inr (.inl (some 1)), .inl (a0)] M (am_QI Q) (fun _ _ => False) := by
  refine ⟨Nat.le_of_ble_eq_true rfl, ?_⟩
  show am_W (am_CC 0) dt_X2_sizeOf 0 0 none (am_QI Q) (am_qx 35 (fun _ _ => False)) (0, 0, [(0, .inr (.inl (some 1))), (1, .inl (a0))], [], M)
  refine am_Wrun 4 (ps := []) (pc' := 4) (lv' := [(3, .inl (0)), (2, .inl (0)), (0, .inr (.inl (some 1))), (1, .inl (a0))]) (st' := []) (M' := M) rfl trivial ?_
  refine am_W_sub [2, 3, 1, 0] rfl ?_
  obtain ⟨n4, h⟩ := h
  exact tw_X2_sizeOf_4 n4 a0 0 0 M h
abbrev dt_X2_keptOf : am_D := (tk_X2_keptOf, 2, 4, some .int, tb_hn 48)
def wl_X2_keptOf_4 (Q : Int → am_M → Prop) : Nat → Int → Int → Int → am_M → Prop
  | 0, _, _, _, _ => False
  | n + 1, v1, v2, v3, M => (am_rg v3) ∧ (am_rg (M 1 7)) ∧ ((M 1 7) ≤ v3 → Q v2 M) ∧ (¬ (M 1 7) ≤ v3 → (0 ≤ (v3 : Int) ∧ (v3 : Int) < 60) ∧ ((am_rg (M 5 v3)) ∧ (am_rg v1) ∧ (¬ (M 5 v3) = v1 → wl_X2_keptOf_4 Q n v1 v2 (v3 + 1) M) ∧ (¬ (¬ (M 5 v3) = v1) → (0 ≤ (v3 : Int) ∧ (v3 : Int) < 60) ∧ ((am_rg (M 4 v3)) ∧ (¬ (M 4 v3) = 1 → wl_X2_keptOf_4 Q n v1 v2 (v3 + 1) M) ∧ (¬ (¬ (M 4 v3) = 1) → wl_X2_keptOf_4 Q n v1 (v2 + 1) (v3 + 1) M)))))
def wp_X2_keptOf (a0 : Int) (M : am_M) (Q : Int → am_M → Prop) : Prop := ∃ e4, wl_X2_keptOf_4 Q e4 a0 0 0 M
set_option maxRecDepth 20000 in
theorem tw_X2_keptOf_4 {Q : Int → am_M → Prop} {QX : am_X} : ∀ (n : Nat) (v1 : Int) (v2 : Int) (v3 : Int) (M : am_M), wl_X2_keptOf_4 Q n v1 v2 v3 M → am_W (am_CC 0) dt_X2_keptOf 0 0 none (am_QI Q) QX (0, 4, [(0, .inr (.inl (some 1))), (1, .inl (v1)), (2, .inl (v2)), (3, .inl (v3))], [], M)
  | 0, _, _, _, _, h => h.elim
  | n + 1, v1, v2, v3, M, h => by
    refine am_Wrun 3 (ps := []) (pc' := 9) (lv' := [(0, .inr (.inl (some 1))), (1, .inl (v1)), (2, .inl (v2)), (3, .inl (v3))]) (st' := [.inl (M 1 7), .inl (v3)]) (M' := M) rfl trivial ?_
    obtain ⟨b0, b1, ht, hf⟩ := h
    refine am_Wbr (P := [am_rg v3, am_rg (M 1 7)]) (c := (M 1 7) ≤ v3) (t := 41) (f := 12) (st' := []) rfl rfl ⟨b0, b1, trivial⟩ rfl (fun q => ?_) (fun q => ?_)
    · have h := ht q
      refine am_Wrun 1 (ps := []) (pc' := 42) (lv' := [(0, .inr (.inl (some 1))), (1, .inl (v1)), (2, .inl (v2)), (3, .inl (v3))]) (st' := [.inl (v2)]) (M' := M) rfl trivial ?_
      exact am_Wreti rfl rfl h
    · have h := hf q
      obtain ⟨c0_0, h⟩ := h
      refine am_Wrun 5 (ps := [0 ≤ (v3 : Int) ∧ (v3 : Int) < 60]) (pc' := 19) (lv' := [(0, .inr (.inl (some 1))), (1, .inl (v1)), (2, .inl (v2)), (3, .inl (v3))]) (st' := [.inl (v1), .inl (M 5 v3)]) (M' := M) rfl ⟨c0_0, trivial⟩ ?_
      obtain ⟨b0, b1, ht, hf⟩ := h
      refine am_Wbr (P := [am_rg (M 5 v3), am_rg v1]) (c := ¬ (M 5 v3) = v1) (t := 35) (f := 22) (st' := []) rfl rfl ⟨b0, b1, trivial⟩ rfl (fun q => ?_) (fun q => ?_)
      · have h := ht q
        refine am_Wrun 2 (ps := []) (pc' := 4) (lv' := [(3, .inl (v3 + 1)), (0, .inr (.inl (some 1))), (1, .inl (v1)), (2, .inl (v2))]) (st' := []) (M' := M) rfl trivial ?_
        refine am_W_sub [1, 2, 3, 0] rfl ?_
        exact tw_X2_keptOf_4 n v1 v2 (v3 + 1) M h
      · have h := hf q
        obtain ⟨c0_0, h⟩ := h
        refine am_Wrun 5 (ps := [0 ≤ (v3 : Int) ∧ (v3 : Int) < 60]) (pc' := 29) (lv' := [(0, .inr (.inl (some 1))), (1, .inl (v1)), (2, .inl (v2)), (3, .inl (v3))]) (st' := [.inl (1), .inl (M 4 v3)]) (M' := M) rfl ⟨c0_0, trivial⟩ ?_
        obtain ⟨b0, ht, hf⟩ := h
        refine am_Wbr (P := [am_rg (M 4 v3), am_rg 1]) (c := ¬ (M 4 v3) = 1) (t := 35) (f := 32) (st' := []) rfl rfl ⟨b0, (am_rgd rfl), trivial⟩ rfl (fun q => ?_) (fun q => ?_)
        · have h := ht q
          refine am_Wrun 2 (ps := []) (pc' := 4) (lv' := [(3, .inl (v3 + 1)), (0, .inr (.inl (some 1))), (1, .inl (v1)), (2, .inl (v2))]) (st' := []) (M' := M) rfl trivial ?_
          refine am_W_sub [1, 2, 3, 0] rfl ?_
          exact tw_X2_keptOf_4 n v1 v2 (v3 + 1) M h
        · have h := hf q
          refine am_Wrun 3 (ps := []) (pc' := 4) (lv' := [(3, .inl (v3 + 1)), (2, .inl (v2 + 1)), (0, .inr (.inl (some 1))), (1, .inl (v1))]) (st' := []) (M' := M) rfl trivial ?_
          refine am_W_sub [2, 3, 1, 0] rfl ?_
          exact tw_X2_keptOf_4 n v1 (v2 + 1) (v3 + 1) M h
set_option maxRecDepth 20000 in
theorem tm_X2_keptOf {a0 : Int} {M : am_M} {Q : Int → am_M → Prop} (h : wp_X2_keptOf a0 M Q) : am_CC 1 48 [.inr (.inl (some 1)), .inl (a0)] M (am_QI Q) (fun _ _ => False) := by
  refine ⟨Nat.le_of_ble_eq_true rfl, ?_⟩
  show am_W (am_CC 0) dt_X2_keptOf 0 0 none (am_QI Q) (am_qx 48 (fun _ _ => False)) (0, 0, [(0, .inr (.inl (some 1))), (1, .inl (a0))], [], M)
  refine am_Wrun 4 (ps := []) (pc' := 4) (lv' := [(3, .inl (0)), (2, .inl (0)), (0, .inr (.inl (some 1))), (1, .inl (a0))]) (st' := []) (M' := M) rfl trivial ?_
  refine am_W_sub [2, 3, 1, 0] rfl ?_
  obtain ⟨n4, h⟩ := h
  exact tw_X2_keptOf_4 n4 a0 0 0 M h
abbrev dt_X5_stretch : am_D := (tk_X5_stretch, 5, 3, some .int, tb_hn 47)
def wp_X5_stretch (a0 : Int) (a1 : Int) (M : am_M) (Q : Int → am_M → Prop) (X : am_X) : Prop := wp_X5_refuseNoStretch a0 M (fun M1 => wp_X5_refuseOutside a1 4 M1 (fun M2 => (am_rg a1) ∧ ((a1 < 0 ∨ 3 < a1) → wp_X4_fewestOf a0 M2 (fun x3 M4 => Q x3 M4)) ∧ (a1 = 0 → wp_X2_firstOf a0 M2 (fun x5 M6 => Q x5 M6)) ∧ (a1 = 1 → wp_X2_sizeOf a0 M2 (fun x7 M8 => Q x7 M8)) ∧ (a1 = 2 → wp_X2_keptOf a0 M2 (fun x9 M10 => Q x9 M10)) ∧ (a1 = 3 → wp_X2_firstOf a0 M2 (fun x11 M12 => wp_X2_sizeOf a0 M12 (fun x13 M14 => wp_X5_brokenAmong x11 x13 M14 (fun x15 M16 => Q x15 M16))))) X) X
set_option maxRecDepth 20000 in
theorem tm_X5_stretch {a0 a1 : Int} {M : am_M} {Q : Int → am_M → Prop} {X : am_X} (h : wp_X5_stretch a0 a1 M Q X) : am_CC 7 47 [.inr (.inl (some 0)), .inl (a0), .inl (a1)] M (am_QI Q) X := by
  refine ⟨Nat.le_of_ble_eq_true rfl, ?_⟩
  show am_W (am_CC 6) dt_X5_stretch 6 0 none (am_QI Q) (am_qx 47 X) (0, 0, [(0, .inr (.inl (some 0))), (1, .inl (a0)), (2, .inl (a1))], [], M)
  have hX : ∀ E M, X E M → am_qx 47 X E M := fun E M q => ⟨⟨rfl, by decide⟩, q⟩
  refine am_Wrun 2 (ps := []) (pc' := 2) (lv' := [(0, .inr (.inl (some 0))), (1, .inl (a0)), (2, .inl (a1))]) (st' := [.inl (a0), .inr (.inl (some 0))]) (M' := M) rfl trivial ?_
  refine am_WcallV (y := 33) (n := 2) (a := 0) (f := 5) (as := [.inl (a0)]) (st' := []) rfl rfl rfl rfl rfl rfl rfl rfl rfl rfl (Nat.zero_le _) rfl (am_CC_le (Nat.le_of_ble_eq_true rfl) (tm_X5_refuseNoStretch h)) (fun r M1 q => ?_) (fun E M q => hX _ _ q)
  obtain ⟨rfl, h⟩ := q
  refine am_Wrun 2 (ps := []) (pc' := 7) (lv' := [(0, .inr (.inl (some 0))), (1, .inl (a0)), (2, .inl (a1))]) (st' := [.inl (4), .inl (a1)]) (M' := M1) rfl trivial ?_
  refine am_WcallS (y := 19) (n := 2) (f := 10) (co := 0) (as := [.inl (a1), .inl (4)]) (st' := []) rfl rfl rfl rfl rfl rfl rfl rfl rfl (Nat.zero_le _) rfl (am_CC_le (Nat.le_of_ble_eq_true rfl) (tm_X5_refuseOutside h)) (fun r M2 q => ?_) (fun E M q => hX _ _ q)
  obtain ⟨rfl, h⟩ := q
  refine am_Wrun 1 (ps := []) (pc' := 11) (lv' := [(0, .inr (.inl (some 0))), (1, .inl (a0)), (2, .inl (a1))]) (st' := [.inl (a1)]) (M' := M2) rfl trivial ?_
  obtain ⟨c0, hd, j0, j1, j2, j3⟩ := h
  refine am_Wsw (n := 4) (t := 88) rfl c0 rfl (by decide) (fun q => ?_) (fun j hj e2 => ?_)
  · have h := hd q
    refine am_Wrun 3 (ps := []) (pc' := 93) (lv' := [(0, .inr (.inl (some 0))), (1, .inl (a0)), (2, .inl (a1))]) (st' := [.inl (a0), .inr (.inl (some 10))]) (M' := M2) rfl trivial ?_
    refine am_WcallV (y := 50) (n := 2) (a := 10) (f := 96) (as := [.inl (a0)]) (st' := []) rfl rfl rfl rfl rfl rfl rfl rfl rfl rfl (Nat.zero_le _) rfl (am_CC_le (Nat.le_of_ble_eq_true rfl) (tm_X4_fewestOf h)) (fun r M4 q => ?_) (fun _ _ q => q.elim)
    obtain ⟨x3, rfl, h⟩ := q
    exact am_Wreti rfl rfl h
  · match j, hj, e2 with
    | 0, _, e2 =>
      have h := j0 e2
      refine ⟨_, 40, rfl, rfl, ?_⟩
      refine am_Wrun 3 (ps := []) (pc' := 45) (lv' := [(0, .inr (.inl (some 0))), (1, .inl (a0)), (2, .inl (a1))]) (st' := [.inl (a0), .inr (.inl (some 1))]) (M' := M2) rfl trivial ?_
      refine am_WcallV (y := 36) (n := 2) (a := 1) (f := 48) (as := [.inl (a0)]) (st' := []) rfl rfl rfl rfl rfl rfl rfl rfl rfl rfl (Nat.zero_le _) rfl (am_CC_le (Nat.le_of_ble_eq_true rfl) (tm_X2_firstOf h)) (fun r M6 q => ?_) (fun _ _ q => q.elim)
      obtain ⟨x5, rfl, h⟩ := q
      exact am_Wreti rfl rfl h
    | 1, _, e2 =>
      have h := j1 e2
      refine ⟨_, 49, rfl, rfl, ?_⟩
      refine am_Wrun 3 (ps := []) (pc' := 54) (lv' := [(0, .inr (.inl (some 0))), (1, .inl (a0)), (2, .inl (a1))]) (st' := [.inl (a0), .inr (.inl (some 1))]) (M' := M2) rfl trivial ?_
      refine am_WcallV (y := 35) (n := 2) (a := 1) (f := 57) (as := [.inl (a0)]) (st' := []) rfl rfl rfl rfl rfl rfl rfl rfl rfl rfl (Nat.zero_le _) rfl (am_CC_le (Nat.le_of_ble_eq_true rfl) (tm_X2_sizeOf h)) (fun r M8 q => ?_) (fun _ _ q => q.elim)
      obtain ⟨x7, rfl, h⟩ := q
      exact am_Wreti rfl rfl h
    | 2, _, e2 =>
      have h := j2 e2
      refine ⟨_, 58, rfl, rfl, ?_⟩
      refine am_Wrun 3 (ps := []) (pc' := 63) (lv' := [(0, .inr (.inl (some 0))), (1, .inl (a0)), (2, .inl (a1))]) (st' := [.inl (a0), .inr (.inl (some 1))]) (M' := M2) rfl trivial ?_
      refine am_WcallV (y := 48) (n := 2) (a := 1) (f := 66) (as := [.inl (a0)]) (st' := []) rfl rfl rfl rfl rfl rfl rfl rfl rfl rfl (Nat.zero_le _) rfl (am_CC_le (Nat.le_of_ble_eq_true rfl) (tm_X2_keptOf h)) (fun r M10 q => ?_) (fun _ _ q => q.elim)
      obtain ⟨x9, rfl, h⟩ := q
      exact am_Wreti rfl rfl h
    | 3, _, e2 =>
      have h := j3 e2
      refine ⟨_, 67, rfl, rfl, ?_⟩
      refine am_Wrun 4 (ps := []) (pc' := 73) (lv' := [(0, .inr (.inl (some 0))), (1, .inl (a0)), (2, .inl (a1))]) (st' := [.inl (a0), .inr (.inl (some 1)), .inr (.inl (some 0))]) (M' := M2) rfl trivial ?_
      refine am_WcallV (y := 36) (n := 2) (a := 1) (f := 76) (as := [.inl (a0)]) (st' := [.inr (.inl (some 0))]) rfl rfl rfl rfl rfl rfl rfl rfl rfl rfl (Nat.zero_le _) rfl (am_CC_le (Nat.le_of_ble_eq_true rfl) (tm_X2_firstOf h)) (fun r M12 q => ?_) (fun _ _ q => q.elim)
      obtain ⟨x11, rfl, h⟩ := q
      refine am_Wrun 3 (ps := []) (pc' := 81) (lv' := [(0, .inr (.inl (some 0))), (1, .inl (a0)), (2, .inl (a1))]) (st' := [.inl (a0), .inr (.inl (some 1)), .inl (x11), .inr (.inl (some 0))]) (M' := M12) rfl trivial ?_
      refine am_WcallV (y := 35) (n := 2) (a := 1) (f := 84) (as := [.inl (a0)]) (st' := [.inl (x11), .inr (.inl (some 0))]) rfl rfl rfl rfl rfl rfl rfl rfl rfl rfl (Nat.zero_le _) rfl (am_CC_le (Nat.le_of_ble_eq_true rfl) (tm_X2_sizeOf h)) (fun r M14 q => ?_) (fun _ _ q => q.elim)
      obtain ⟨x13, rfl, h⟩ := q
      refine am_WcallV (y := 49) (n := 3) (a := 0) (f := 87) (as := [.inl (x11), .inl (x13)]) (st' := []) rfl rfl rfl rfl rfl rfl rfl rfl rfl rfl (Nat.zero_le _) rfl (am_CC_le (Nat.le_of_ble_eq_true rfl) (tm_X5_brokenAmong h)) (fun r M16 q => ?_) (fun _ _ q => q.elim)
      obtain ⟨x15, rfl, h⟩ := q
      exact am_Wreti rfl rfl h
    | n + 4, hj, _ => exact absurd hj (by omega)
abbrev dt_X5_refuseNoPoint : am_D := (tk_X5_refuseNoPoint, 5, 2, none, tb_hn 67)
def wp_X5_refuseNoPoint (a0 : Int) (M : am_M) (Q : am_M → Prop) (X : am_X) : Prop := wp_X2_hasPoint a0 M (fun x1 M2 => (am_rg x1) ∧ (¬ x1 = 0 → Q M2) ∧ (¬ (¬ x1 = 0) → X 2 M2))
set_option maxRecDepth 20000 in
theorem tm_X5_refuseNoPoint {a0 : Int} {M : am_M} {Q : am_M → Prop} {X : am_X} (h : wp_X5_refuseNoPoint a0 M Q X) : am_CC 6 67 [.inr (.inl (some 0)), .inl (a0)] M (am_QV Q) X := by
  refine ⟨Nat.le_of_ble_eq_true rfl, ?_⟩
  show am_W (am_CC 5) dt_X5_refuseNoPoint 5 0 none (am_QV Q) (am_qx 67 X) (0, 0, [(0, .inr (.inl (some 0))), (1, .inl (a0))], [], M)
  have hX : ∀ E M, X E M → am_qx 67 X E M := fun E M q => ⟨⟨rfl, by decide⟩, q⟩
  refine am_Wrun 3 (ps := []) (pc' := 5) (lv' := [(0, .inr (.inl (some 0))), (1, .inl (a0))]) (st' := [.inl (a0), .inr (.inl (some 1))]) (M' := M) rfl trivial ?_
  refine am_WcallV (y := 9) (n := 2) (a := 1) (f := 8) (as := [.inl (a0)]) (st' := []) rfl rfl rfl rfl rfl rfl rfl rfl rfl rfl (Nat.zero_le _) rfl (am_CC_le (Nat.le_of_ble_eq_true rfl) (tm_X2_hasPoint h)) (fun r M2 q => ?_) (fun _ _ q => q.elim)
  obtain ⟨x1, rfl, h⟩ := q
  obtain ⟨b0, ht, hf⟩ := h
  refine am_Wbr (P := [am_rg x1]) (c := ¬ x1 = 0) (t := 22) (f := 11) (st' := []) rfl rfl ⟨b0, trivial⟩ rfl (fun q => ?_) (fun q => ?_)
  · have h := ht q
    exact am_Wretv rfl rfl h
  · have h := hf q
    exact am_Wthr (is := 342) (ic := 256) (E := 2) rfl (Nat.le_of_ble_eq_true rfl) rfl rfl rfl rfl (Or.inr ⟨rfl, rfl, rfl⟩) (hX _ _ h)
abbrev dt_X1_canJoin : am_D := (tk_X1_canJoin, 1, 3, some .boolean, tb_hn 69)
def wp_X1_canJoin (a0 : Int) (a1 : Int) (M : am_M) (Q : Int → am_M → Prop) : Prop := wp_X1_findWorst a0 a1 M (fun x1 M2 => wp_X2_sameStretch a0 a1 M2 (fun x3 M4 => (am_rg x3) ∧ (x3 = 0 → Q 0 M4) ∧ (¬ x3 = 0 → (am_rg (M4 9 1)) ∧ (am_rg ((M4 6 0) * (M4 9 2))) ∧ (((M4 6 0) * (M4 9 2)) < (M4 9 1) → Q 0 M4) ∧ (¬ ((M4 6 0) * (M4 9 2)) < (M4 9 1) → Q 1 M4))))
set_option maxRecDepth 20000 in
theorem tm_X1_canJoin {a0 a1 : Int} {M : am_M} {Q : Int → am_M → Prop} (h : wp_X1_canJoin a0 a1 M Q) : am_CC 3 69 [.inr (.inl (some 9)), .inl (a0), .inl (a1)] M (am_QI Q) (fun _ _ => False) := by
  refine ⟨Nat.le_of_ble_eq_true rfl, ?_⟩
  show am_W (am_CC 2) dt_X1_canJoin 2 0 none (am_QI Q) (am_qx 69 (fun _ _ => False)) (0, 0, [(0, .inr (.inl (some 9))), (1, .inl (a0)), (2, .inl (a1))], [], M)
  refine am_Wrun 3 (ps := []) (pc' := 3) (lv' := [(0, .inr (.inl (some 9))), (1, .inl (a0)), (2, .inl (a1))]) (st' := [.inl (a1), .inl (a0), .inr (.inl (some 9))]) (M' := M) rfl trivial ?_
  refine am_WcallV (y := 22) (n := 3) (a := 9) (f := 6) (as := [.inl (a0), .inl (a1)]) (st' := []) rfl rfl rfl rfl rfl rfl rfl rfl rfl rfl (Nat.zero_le _) rfl (am_CC_le (Nat.le_of_ble_eq_true rfl) (tm_X1_findWorst h)) (fun r M2 q => ?_) (fun _ _ q => q.elim)
  obtain ⟨x1, rfl, h⟩ := q
  refine am_Wrun 5 (ps := []) (pc' := 13) (lv' := [(0, .inr (.inl (some 9))), (1, .inl (a0)), (2, .inl (a1))]) (st' := [.inl (a1), .inl (a0), .inr (.inl (some 1))]) (M' := M2) rfl trivial ?_
  refine am_WcallV (y := 12) (n := 3) (a := 1) (f := 16) (as := [.inl (a0), .inl (a1)]) (st' := []) rfl rfl rfl rfl rfl rfl rfl rfl rfl rfl (Nat.zero_le _) rfl (am_CC_le (Nat.le_of_ble_eq_true rfl) (tm_X2_sameStretch h)) (fun r M4 q => ?_) (fun _ _ q => q.elim)
  obtain ⟨x3, rfl, h⟩ := q
  obtain ⟨b0, ht, hf⟩ := h
  refine am_Wbr (P := [am_rg x3]) (c := x3 = 0) (t := 44) (f := 19) (st' := []) rfl rfl ⟨b0, trivial⟩ rfl (fun q => ?_) (fun q => ?_)
  · have h := ht q
    refine am_Wrun 1 (ps := []) (pc' := 45) (lv' := [(0, .inr (.inl (some 9))), (1, .inl (a0)), (2, .inl (a1))]) (st' := [.inl (0)]) (M' := M4) rfl trivial ?_
    exact am_Wretz rfl rfl (Or.inl rfl) h
  · have h := hf q
    refine am_Wrun 10 (ps := [0 ≤ (0 : Int) ∧ (0 : Int) < 3]) (pc' := 37) (lv' := [(0, .inr (.inl (some 9))), (1, .inl (a0)), (2, .inl (a1))]) (st' := [.inl ((M4 6 0) * (M4 9 2)), .inl (M4 9 1)]) (M' := M4) rfl ⟨⟨by decide, by decide⟩, trivial⟩ ?_
    obtain ⟨b0, b1, ht, hf⟩ := h
    refine am_Wbr (P := [am_rg (M4 9 1), am_rg ((M4 6 0) * (M4 9 2))]) (c := ((M4 6 0) * (M4 9 2)) < (M4 9 1)) (t := 44) (f := 40) (st' := []) rfl rfl ⟨b0, b1, trivial⟩ rfl (fun q => ?_) (fun q => ?_)
    · have h := ht q
      refine am_Wrun 1 (ps := []) (pc' := 45) (lv' := [(0, .inr (.inl (some 9))), (1, .inl (a0)), (2, .inl (a1))]) (st' := [.inl (0)]) (M' := M4) rfl trivial ?_
      exact am_Wretz rfl rfl (Or.inl rfl) h
    · have h := hf q
      refine am_Wrun 2 (ps := []) (pc' := 45) (lv' := [(0, .inr (.inl (some 9))), (1, .inl (a0)), (2, .inl (a1))]) (st' := [.inl (1)]) (M' := M4) rfl trivial ?_
      exact am_Wretz rfl rfl (Or.inr rfl) h
abbrev dt_X1_reasonToKeep : am_D := (tk_X1_reasonToKeep, 1, 4, some .int, tb_hn 68)
def wp_X1_reasonToKeep (a0 : Int) (M : am_M) (Q : Int → am_M → Prop) : Prop := wp_X2_isKept a0 M (fun x1 M2 => (am_rg x1) ∧ (¬ x1 = 0 → wp_X2_earlierKept a0 M2 (fun x3 M4 => wp_X2_laterKept a0 M4 (fun x5 M6 => (am_rg x3) ∧ (x3 = (-1000000) → Q 2 M6) ∧ (¬ x3 = (-1000000) → (am_rg x5) ∧ (¬ x5 = (-1000000) → wp_X1_canJoin x3 x5 M6 (fun x7 M8 => (am_rg x7) ∧ (x7 = 0 → Q 3 M8) ∧ (¬ x7 = 0 → Q 0 M8))) ∧ (¬ (¬ x5 = (-1000000)) → Q 2 M6))))) ∧ (¬ (¬ x1 = 0) → Q 1 M2))
set_option maxRecDepth 20000 in
theorem tm_X1_reasonToKeep {a0 : Int} {M : am_M} {Q : Int → am_M → Prop} (h : wp_X1_reasonToKeep a0 M Q) : am_CC 4 68 [.inr (.inl (some 9)), .inl (a0)] M (am_QI Q) (fun _ _ => False) := by
  refine ⟨Nat.le_of_ble_eq_true rfl, ?_⟩
  show am_W (am_CC 3) dt_X1_reasonToKeep 3 0 none (am_QI Q) (am_qx 68 (fun _ _ => False)) (0, 0, [(0, .inr (.inl (some 9))), (1, .inl (a0))], [], M)
  refine am_Wrun 3 (ps := []) (pc' := 5) (lv' := [(0, .inr (.inl (some 9))), (1, .inl (a0))]) (st' := [.inl (a0), .inr (.inl (some 1))]) (M' := M) rfl trivial ?_
  refine am_WcallV (y := 8) (n := 2) (a := 1) (f := 8) (as := [.inl (a0)]) (st' := []) rfl rfl rfl rfl rfl rfl rfl rfl rfl rfl (Nat.zero_le _) rfl (am_CC_le (Nat.le_of_ble_eq_true rfl) (tm_X2_isKept h)) (fun r M2 q => ?_) (fun _ _ q => q.elim)
  obtain ⟨x1, rfl, h⟩ := q
  obtain ⟨b0, ht, hf⟩ := h
  refine am_Wbr (P := [am_rg x1]) (c := ¬ x1 = 0) (t := 13) (f := 11) (st' := []) rfl rfl ⟨b0, trivial⟩ rfl (fun q => ?_) (fun q => ?_)
  · have h := ht q
    refine am_Wrun 3 (ps := []) (pc' := 18) (lv' := [(0, .inr (.inl (some 9))), (1, .inl (a0))]) (st' := [.inl (a0), .inr (.inl (some 1))]) (M' := M2) rfl trivial ?_
    refine am_WcallV (y := 10) (n := 2) (a := 1) (f := 21) (as := [.inl (a0)]) (st' := []) rfl rfl rfl rfl rfl rfl rfl rfl rfl rfl (Nat.zero_le _) rfl (am_CC_le (Nat.le_of_ble_eq_true rfl) (tm_X2_earlierKept h)) (fun r M4 q => ?_) (fun _ _ q => q.elim)
    obtain ⟨x3, rfl, h⟩ := q
    refine am_Wrun 4 (ps := []) (pc' := 27) (lv' := [(2, .inl (x3)), (0, .inr (.inl (some 9))), (1, .inl (a0))]) (st' := [.inl (a0), .inr (.inl (some 1))]) (M' := M4) rfl trivial ?_
    refine am_WcallV (y := 13) (n := 2) (a := 1) (f := 30) (as := [.inl (a0)]) (st' := []) rfl rfl rfl rfl rfl rfl rfl rfl rfl rfl (Nat.zero_le _) rfl (am_CC_le (Nat.le_of_ble_eq_true rfl) (tm_X2_laterKept h)) (fun r M6 q => ?_) (fun _ _ q => q.elim)
    obtain ⟨x5, rfl, h⟩ := q
    refine am_Wrun 3 (ps := []) (pc' := 34) (lv' := [(3, .inl (x5)), (2, .inl (x3)), (0, .inr (.inl (some 9))), (1, .inl (a0))]) (st' := [.inl ((-1000000)), .inl (x3)]) (M' := M6) rfl trivial ?_
    obtain ⟨b0, ht, hf⟩ := h
    refine am_Wbr (P := [am_rg x3, am_rg (-1000000)]) (c := x3 = (-1000000)) (t := 43) (f := 37) (st' := []) rfl rfl ⟨b0, (am_rgd rfl), trivial⟩ rfl (fun q => ?_) (fun q => ?_)
    · have h := ht q
      refine am_Wrun 1 (ps := []) (pc' := 44) (lv' := [(3, .inl (x5)), (2, .inl (x3)), (0, .inr (.inl (some 9))), (1, .inl (a0))]) (st' := [.inl (2)]) (M' := M6) rfl trivial ?_
      exact am_Wreti rfl rfl h
    · have h := hf q
      refine am_Wrun 2 (ps := []) (pc' := 40) (lv' := [(3, .inl (x5)), (2, .inl (x3)), (0, .inr (.inl (some 9))), (1, .inl (a0))]) (st' := [.inl ((-1000000)), .inl (x5)]) (M' := M6) rfl trivial ?_
      obtain ⟨b0, ht, hf⟩ := h
      refine am_Wbr (P := [am_rg x5, am_rg (-1000000)]) (c := ¬ x5 = (-1000000)) (t := 45) (f := 43) (st' := []) rfl rfl ⟨b0, (am_rgd rfl), trivial⟩ rfl (fun q => ?_) (fun q => ?_)
      · have h := ht q
        refine am_Wrun 3 (ps := []) (pc' := 48) (lv' := [(3, .inl (x5)), (2, .inl (x3)), (0, .inr (.inl (some 9))), (1, .inl (a0))]) (st' := [.inl (x5), .inl (x3), .inr (.inl (some 9))]) (M' := M6) rfl trivial ?_
        refine am_WcallV (y := 69) (n := 3) (a := 9) (f := 51) (as := [.inl (x3), .inl (x5)]) (st' := []) rfl rfl rfl rfl rfl rfl rfl rfl rfl rfl (Nat.zero_le _) rfl (am_CC_le (Nat.le_of_ble_eq_true rfl) (tm_X1_canJoin h)) (fun r M8 q => ?_) (fun _ _ q => q.elim)
        obtain ⟨x7, rfl, h⟩ := q
        obtain ⟨b0, ht, hf⟩ := h
        refine am_Wbr (P := [am_rg x7]) (c := x7 = 0) (t := 58) (f := 54) (st' := []) rfl rfl ⟨b0, trivial⟩ rfl (fun q => ?_) (fun q => ?_)
        · have h := ht q
          refine am_Wrun 1 (ps := []) (pc' := 59) (lv' := [(3, .inl (x5)), (2, .inl (x3)), (0, .inr (.inl (some 9))), (1, .inl (a0))]) (st' := [.inl (3)]) (M' := M8) rfl trivial ?_
          exact am_Wreti rfl rfl h
        · have h := hf q
          refine am_Wrun 2 (ps := []) (pc' := 59) (lv' := [(3, .inl (x5)), (2, .inl (x3)), (0, .inr (.inl (some 9))), (1, .inl (a0))]) (st' := [.inl (0)]) (M' := M8) rfl trivial ?_
          exact am_Wreti rfl rfl h
      · have h := hf q
        refine am_Wrun 1 (ps := []) (pc' := 44) (lv' := [(3, .inl (x5)), (2, .inl (x3)), (0, .inr (.inl (some 9))), (1, .inl (a0))]) (st' := [.inl (2)]) (M' := M6) rfl trivial ?_
        exact am_Wreti rfl rfl h
  · have h := hf q
    refine am_Wrun 1 (ps := []) (pc' := 12) (lv' := [(0, .inr (.inl (some 9))), (1, .inl (a0))]) (st' := [.inl (1)]) (M' := M2) rfl trivial ?_
    exact am_Wreti rfl rfl h
abbrev dt_X5_point : am_D := (tk_X5_point, 5, 3, some .int, tb_hn 66)
def wp_X5_point (a0 : Int) (a1 : Int) (M : am_M) (Q : Int → am_M → Prop) (X : am_X) : Prop := wp_X5_refuseNoPoint a0 M (fun M1 => wp_X5_refuseOutside a1 7 M1 (fun M2 => (am_rg a1) ∧ ((a1 < 0 ∨ 6 < a1) → wp_X1_reasonToKeep a0 M2 (fun x3 M4 => Q x3 M4)) ∧ (a1 = 0 → (0 ≤ (a0 : Int) ∧ (a0 : Int) < 60) ∧ (Q (M2 2 a0) M2)) ∧ (a1 = 1 → (0 ≤ (a0 : Int) ∧ (a0 : Int) < 60) ∧ (Q (M2 3 a0) M2)) ∧ (a1 = 2 → (0 ≤ (a0 : Int) ∧ (a0 : Int) < 60) ∧ (Q (M2 4 a0) M2)) ∧ (a1 = 3 → wp_X1_isBroken a0 M2 (fun x5 M6 => (am_rg x5) ∧ (x5 = 0 → Q 0 M6) ∧ (¬ x5 = 0 → Q 1 M6))) ∧ (a1 = 4 → (0 ≤ (a0 : Int) ∧ (a0 : Int) < 60) ∧ (Q (M2 5 a0) M2)) ∧ (a1 = 5 → wp_X2_earlierKept a0 M2 (fun x7 M8 => Q x7 M8)) ∧ (a1 = 6 → wp_X2_laterKept a0 M2 (fun x9 M10 => Q x9 M10))) X) X
set_option maxRecDepth 20000 in
theorem tm_X5_point {a0 a1 : Int} {M : am_M} {Q : Int → am_M → Prop} {X : am_X} (h : wp_X5_point a0 a1 M Q X) : am_CC 7 66 [.inr (.inl (some 0)), .inl (a0), .inl (a1)] M (am_QI Q) X := by
  refine ⟨Nat.le_of_ble_eq_true rfl, ?_⟩
  show am_W (am_CC 6) dt_X5_point 6 0 none (am_QI Q) (am_qx 66 X) (0, 0, [(0, .inr (.inl (some 0))), (1, .inl (a0)), (2, .inl (a1))], [], M)
  have hX : ∀ E M, X E M → am_qx 66 X E M := fun E M q => ⟨⟨rfl, by decide⟩, q⟩
  refine am_Wrun 2 (ps := []) (pc' := 2) (lv' := [(0, .inr (.inl (some 0))), (1, .inl (a0)), (2, .inl (a1))]) (st' := [.inl (a0), .inr (.inl (some 0))]) (M' := M) rfl trivial ?_
  refine am_WcallV (y := 67) (n := 2) (a := 0) (f := 5) (as := [.inl (a0)]) (st' := []) rfl rfl rfl rfl rfl rfl rfl rfl rfl rfl (Nat.zero_le _) rfl (am_CC_le (Nat.le_of_ble_eq_true rfl) (tm_X5_refuseNoPoint h)) (fun r M1 q => ?_) (fun E M q => hX _ _ q)
  obtain ⟨rfl, h⟩ := q
  refine am_Wrun 2 (ps := [-128 ≤ (7 : Int) ∧ (7 : Int) ≤ 127]) (pc' := 8) (lv' := [(0, .inr (.inl (some 0))), (1, .inl (a0)), (2, .inl (a1))]) (st' := [.inl (7), .inl (a1)]) (M' := M1) rfl ⟨⟨by decide, by decide⟩, trivial⟩ ?_
  refine am_WcallS (y := 19) (n := 2) (f := 11) (co := 0) (as := [.inl (a1), .inl (7)]) (st' := []) rfl rfl rfl rfl rfl rfl rfl rfl rfl (Nat.zero_le _) rfl (am_CC_le (Nat.le_of_ble_eq_true rfl) (tm_X5_refuseOutside h)) (fun r M2 q => ?_) (fun E M q => hX _ _ q)
  obtain ⟨rfl, h⟩ := q
  refine am_Wrun 1 (ps := []) (pc' := 12) (lv' := [(0, .inr (.inl (some 0))), (1, .inl (a0)), (2, .inl (a1))]) (st' := [.inl (a1)]) (M' := M2) rfl trivial ?_
  obtain ⟨c0, hd, j0, j1, j2, j3, j4, j5, j6⟩ := h
  refine am_Wsw (n := 7) (t := 131) rfl c0 rfl (by decide) (fun q => ?_) (fun j hj e2 => ?_)
  · have h := hd q
    refine am_Wrun 3 (ps := []) (pc' := 136) (lv' := [(0, .inr (.inl (some 0))), (1, .inl (a0)), (2, .inl (a1))]) (st' := [.inl (a0), .inr (.inl (some 9))]) (M' := M2) rfl trivial ?_
    refine am_WcallV (y := 68) (n := 2) (a := 9) (f := 139) (as := [.inl (a0)]) (st' := []) rfl rfl rfl rfl rfl rfl rfl rfl rfl rfl (Nat.zero_le _) rfl (am_CC_le (Nat.le_of_ble_eq_true rfl) (tm_X1_reasonToKeep h)) (fun r M4 q => ?_) (fun _ _ q => q.elim)
    obtain ⟨x3, rfl, h⟩ := q
    exact am_Wreti rfl rfl h
  · match j, hj, e2 with
    | 0, _, e2 =>
      have h := j0 e2
      refine ⟨_, 56, rfl, rfl, ?_⟩
      obtain ⟨c0_0, h⟩ := h
      refine am_Wrun 5 (ps := [0 ≤ (a0 : Int) ∧ (a0 : Int) < 60]) (pc' := 65) (lv' := [(0, .inr (.inl (some 0))), (1, .inl (a0)), (2, .inl (a1))]) (st' := [.inl (M2 2 a0)]) (M' := M2) rfl ⟨c0_0, trivial⟩ ?_
      exact am_Wreti rfl rfl h
    | 1, _, e2 =>
      have h := j1 e2
      refine ⟨_, 66, rfl, rfl, ?_⟩
      obtain ⟨c0_0, h⟩ := h
      refine am_Wrun 5 (ps := [0 ≤ (a0 : Int) ∧ (a0 : Int) < 60]) (pc' := 75) (lv' := [(0, .inr (.inl (some 0))), (1, .inl (a0)), (2, .inl (a1))]) (st' := [.inl (M2 3 a0)]) (M' := M2) rfl ⟨c0_0, trivial⟩ ?_
      exact am_Wreti rfl rfl h
    | 2, _, e2 =>
      have h := j2 e2
      refine ⟨_, 76, rfl, rfl, ?_⟩
      obtain ⟨c0_0, h⟩ := h
      refine am_Wrun 5 (ps := [0 ≤ (a0 : Int) ∧ (a0 : Int) < 60]) (pc' := 85) (lv' := [(0, .inr (.inl (some 0))), (1, .inl (a0)), (2, .inl (a1))]) (st' := [.inl (M2 4 a0)]) (M' := M2) rfl ⟨c0_0, trivial⟩ ?_
      exact am_Wreti rfl rfl h
    | 3, _, e2 =>
      have h := j3 e2
      refine ⟨_, 86, rfl, rfl, ?_⟩
      refine am_Wrun 3 (ps := []) (pc' := 91) (lv' := [(0, .inr (.inl (some 0))), (1, .inl (a0)), (2, .inl (a1))]) (st' := [.inl (a0), .inr (.inl (some 9))]) (M' := M2) rfl trivial ?_
      refine am_WcallV (y := 7) (n := 2) (a := 9) (f := 94) (as := [.inl (a0)]) (st' := []) rfl rfl rfl rfl rfl rfl rfl rfl rfl rfl (Nat.zero_le _) rfl (am_CC_le (Nat.le_of_ble_eq_true rfl) (tm_X1_isBroken h)) (fun r M6 q => ?_) (fun _ _ q => q.elim)
      obtain ⟨x5, rfl, h⟩ := q
      obtain ⟨b0, ht, hf⟩ := h
      refine am_Wbr (P := [am_rg x5]) (c := x5 = 0) (t := 101) (f := 97) (st' := []) rfl rfl ⟨b0, trivial⟩ rfl (fun q => ?_) (fun q => ?_)
      · have h := ht q
        refine am_Wrun 1 (ps := []) (pc' := 102) (lv' := [(0, .inr (.inl (some 0))), (1, .inl (a0)), (2, .inl (a1))]) (st' := [.inl (0)]) (M' := M6) rfl trivial ?_
        exact am_Wreti rfl rfl h
      · have h := hf q
        refine am_Wrun 2 (ps := []) (pc' := 102) (lv' := [(0, .inr (.inl (some 0))), (1, .inl (a0)), (2, .inl (a1))]) (st' := [.inl (1)]) (M' := M6) rfl trivial ?_
        exact am_Wreti rfl rfl h
    | 4, _, e2 =>
      have h := j4 e2
      refine ⟨_, 103, rfl, rfl, ?_⟩
      obtain ⟨c0_0, h⟩ := h
      refine am_Wrun 5 (ps := [0 ≤ (a0 : Int) ∧ (a0 : Int) < 60]) (pc' := 112) (lv' := [(0, .inr (.inl (some 0))), (1, .inl (a0)), (2, .inl (a1))]) (st' := [.inl (M2 5 a0)]) (M' := M2) rfl ⟨c0_0, trivial⟩ ?_
      exact am_Wreti rfl rfl h
    | 5, _, e2 =>
      have h := j5 e2
      refine ⟨_, 113, rfl, rfl, ?_⟩
      refine am_Wrun 3 (ps := []) (pc' := 118) (lv' := [(0, .inr (.inl (some 0))), (1, .inl (a0)), (2, .inl (a1))]) (st' := [.inl (a0), .inr (.inl (some 1))]) (M' := M2) rfl trivial ?_
      refine am_WcallV (y := 10) (n := 2) (a := 1) (f := 121) (as := [.inl (a0)]) (st' := []) rfl rfl rfl rfl rfl rfl rfl rfl rfl rfl (Nat.zero_le _) rfl (am_CC_le (Nat.le_of_ble_eq_true rfl) (tm_X2_earlierKept h)) (fun r M8 q => ?_) (fun _ _ q => q.elim)
      obtain ⟨x7, rfl, h⟩ := q
      exact am_Wreti rfl rfl h
    | 6, _, e2 =>
      have h := j6 e2
      refine ⟨_, 122, rfl, rfl, ?_⟩
      refine am_Wrun 3 (ps := []) (pc' := 127) (lv' := [(0, .inr (.inl (some 0))), (1, .inl (a0)), (2, .inl (a1))]) (st' := [.inl (a0), .inr (.inl (some 1))]) (M' := M2) rfl trivial ?_
      refine am_WcallV (y := 13) (n := 2) (a := 1) (f := 130) (as := [.inl (a0)]) (st' := []) rfl rfl rfl rfl rfl rfl rfl rfl rfl rfl (Nat.zero_le _) rfl (am_CC_le (Nat.le_of_ble_eq_true rfl) (tm_X2_laterKept h)) (fun r M10 q => ?_) (fun _ _ q => q.elim)
      obtain ⟨x9, rfl, h⟩ := q
      exact am_Wreti rfl rfl h
    | n + 7, hj, _ => exact absurd hj (by omega)
abbrev dt_X5_refuseNoSetting : am_D := (tk_X5_refuseNoSetting, 5, 1, none, tb_hn 43)
def wj_X5_refuseNoSetting_9 (Q : am_M → Prop) (X : am_X) (M : am_M) : Prop := X 2 M
def wp_X5_refuseNoSetting (a0 : Int) (M : am_M) (Q : am_M → Prop) (X : am_X) : Prop := (am_rg a0) ∧ (a0 < 0 → wj_X5_refuseNoSetting_9 Q X  M) ∧ (¬ a0 < 0 → (am_rg a0) ∧ (a0 < 3 → Q M) ∧ (¬ a0 < 3 → wj_X5_refuseNoSetting_9 Q X  M))
set_option maxRecDepth 20000 in
theorem tj_X5_refuseNoSetting_9 {Q : am_M → Prop} {X : am_X} {QX : am_X} (hX : ∀ E M, X E M → QX E M) (M : am_M) (h : wj_X5_refuseNoSetting_9 Q X M) : am_W (am_CC 5) dt_X5_refuseNoSetting 5 0 none (am_QV Q) QX (0, 9, [], [], M) := by
  exact am_Wthr (is := 337) (ic := 256) (E := 2) rfl (Nat.le_of_ble_eq_true rfl) rfl rfl rfl rfl (Or.inr ⟨rfl, rfl, rfl⟩) (hX _ _ h)
set_option maxRecDepth 20000 in
theorem tm_X5_refuseNoSetting {a0 : Int} {M : am_M} {Q : am_M → Prop} {X : am_X} (h : wp_X5_refuseNoSetting a0 M Q X) : am_CC 6 43 [.inl (a0)] M (am_QV Q) X := by
  refine ⟨Nat.le_of_ble_eq_true rfl, ?_⟩
  show am_W (am_CC 5) dt_X5_refuseNoSetting 5 0 none (am_QV Q) (am_qx 43 X) (0, 0, [(0, .inl (a0))], [], M)
  have hX : ∀ E M, X E M → am_qx 43 X E M := fun E M q => ⟨⟨rfl, by decide⟩, q⟩
  refine am_Wrun 1 (ps := []) (pc' := 1) (lv' := [(0, .inl (a0))]) (st' := [.inl (a0)]) (M' := M) rfl trivial ?_
  obtain ⟨b0, ht, hf⟩ := h
  refine am_Wbr (P := [am_rg a0]) (c := a0 < 0) (t := 9) (f := 4) (st' := []) rfl rfl ⟨b0, trivial⟩ rfl (fun q => ?_) (fun q => ?_)
  · have h := ht q
    refine am_W_sub [] rfl ?_
    exact tj_X5_refuseNoSetting_9 hX  M h
  · have h := hf q
    refine am_Wrun 2 (ps := []) (pc' := 6) (lv' := [(0, .inl (a0))]) (st' := [.inl (3), .inl (a0)]) (M' := M) rfl trivial ?_
    obtain ⟨b0, ht, hf⟩ := h
    refine am_Wbr (P := [am_rg a0, am_rg 3]) (c := a0 < 3) (t := 20) (f := 9) (st' := []) rfl rfl ⟨b0, (am_rgd rfl), trivial⟩ rfl (fun q => ?_) (fun q => ?_)
    · have h := ht q
      exact am_Wretv rfl rfl h
    · have h := hf q
      refine am_W_sub [] rfl ?_
      exact tj_X5_refuseNoSetting_9 hX  M h
abbrev dt_X5_setting : am_D := (tk_X5_setting, 5, 2, some .int, tb_hn 61)
def wp_X5_setting (a0 : Int) (M : am_M) (Q : Int → am_M → Prop) (X : am_X) : Prop := wp_X5_refuseNoSetting a0 M (fun M1 => (0 ≤ (a0 : Int) ∧ (a0 : Int) < 3) ∧ (Q (M1 6 a0) M1)) X
set_option maxRecDepth 20000 in
theorem tm_X5_setting {a0 : Int} {M : am_M} {Q : Int → am_M → Prop} {X : am_X} (h : wp_X5_setting a0 M Q X) : am_CC 7 61 [.inr (.inl (some 0)), .inl (a0)] M (am_QI Q) X := by
  refine ⟨Nat.le_of_ble_eq_true rfl, ?_⟩
  show am_W (am_CC 6) dt_X5_setting 6 0 none (am_QI Q) (am_qx 61 X) (0, 0, [(0, .inr (.inl (some 0))), (1, .inl (a0))], [], M)
  have hX : ∀ E M, X E M → am_qx 61 X E M := fun E M q => ⟨⟨rfl, by decide⟩, q⟩
  refine am_Wrun 1 (ps := []) (pc' := 1) (lv' := [(0, .inr (.inl (some 0))), (1, .inl (a0))]) (st' := [.inl (a0)]) (M' := M) rfl trivial ?_
  refine am_WcallS (y := 43) (n := 1) (f := 4) (co := 0) (as := [.inl (a0)]) (st' := []) rfl rfl rfl rfl rfl rfl rfl rfl rfl (Nat.zero_le _) rfl (am_CC_le (Nat.le_of_ble_eq_true rfl) (tm_X5_refuseNoSetting h)) (fun r M1 q => ?_) (fun E M q => hX _ _ q)
  obtain ⟨rfl, h⟩ := q
  obtain ⟨c0_0, h⟩ := h
  refine am_Wrun 5 (ps := [0 ≤ (a0 : Int) ∧ (a0 : Int) < 3]) (pc' := 13) (lv' := [(0, .inr (.inl (some 0))), (1, .inl (a0))]) (st' := [.inl (M1 6 a0)]) (M' := M1) rfl ⟨c0_0, trivial⟩ ?_
  exact am_Wreti rfl rfl h
abbrev dt_L_stretches : am_D := (tk_L_stretches, 9, 8, some .boolean, tb_hn 65)
def wj_L_stretches_221 (Q : Int → am_M → Prop) (X : am_X) (v1 : Int) (v2 : Int) (v3 : Int) (v4 : Int) (M : am_M) : Prop := (am_rg v4) ∧ (v4 = 0 → Q 0 M) ∧ (¬ v4 = 0 → wp_X5_count 0 M (fun x3 M4 => (am_rg v1) ∧ (am_rg x3) ∧ (¬ v1 = x3 → Q 0 M4) ∧ (¬ (¬ v1 = x3) → wp_X5_count 1 M4 (fun x5 M6 => (am_rg v2) ∧ (am_rg x5) ∧ (¬ v2 = x5 → Q 0 M6) ∧ (¬ (¬ v2 = x5) → wp_X5_count 2 M6 (fun x7 M8 => (am_rg v3) ∧ (am_rg x7) ∧ (¬ v3 = x7 → Q 0 M8) ∧ (¬ (¬ v3 = x7) → Q 1 M8)) X)) X)) X)
def wj_L_stretches_190 (Q : Int → am_M → Prop) (X : am_X) (k12 : Int → Int → Int → Int → Int → am_M → Prop) (v1 : Int) (v2 : Int) (v3 : Int) (v4 : Int) (v5 : Int) (v6 : Int) (M : am_M) : Prop := wp_X5_stretch v5 2 M (fun x13 M14 => wp_X5_stretch v5 3 M14 (fun x15 M16 => k12 (v1 + v6) (v2 + x13) (v3 + x15) v4 (v5 + 1) M16) X) X
def wl_L_stretches_101 (Q : Int → am_M → Prop) (X : am_X) (k12 : Int → Int → Int → Int → Int → am_M → Prop) : Nat → Int → Int → Int → Int → Int → Int → Int → am_M → Prop
  | 0, _, _, _, _, _, _, _, _ => False
  | n + 1, v1, v2, v3, v4, v5, v6, v7, M => (am_rg v7) ∧ (am_rg (v1 + v6)) ∧ ((v1 + v6) ≤ v7 → wj_L_stretches_190 Q X k12 v1 v2 v3 v4 v5 v6 M) ∧ (¬ (v1 + v6) ≤ v7 → (am_rg v4) ∧ (v4 = 0 → wj_L_stretches_190 Q X k12 v1 v2 v3 v4 v5 v6 M) ∧ (¬ v4 = 0 → wp_X5_point v7 4 M (fun x17 M18 => (am_rg x17) ∧ (am_rg v5) ∧ (¬ x17 = v5 → wl_L_stretches_101 Q X k12 n v1 v2 v3 0 v5 v6 (v7 + 1) M18) ∧ (¬ (¬ x17 = v5) → (am_rg v7) ∧ (am_rg v1) ∧ (v7 = v1 → wl_L_stretches_101 Q X k12 n v1 v2 v3 1 v5 v6 (v7 + 1) M18) ∧ (¬ v7 = v1 → wp_X5_point v7 0 M18 (fun x19 M20 => wp_X5_point (v7 - 1) 0 M20 (fun x21 M22 => wp_X5_setting 1 M22 (fun x23 M24 => (am_rg (x19 - x21)) ∧ (am_rg x23) ∧ (x23 < (x19 - x21) → wl_L_stretches_101 Q X k12 n v1 v2 v3 0 v5 v6 (v7 + 1) M24) ∧ (¬ x23 < (x19 - x21) → wp_X5_point v7 0 M24 (fun x25 M26 => wp_X5_point (v7 - 1) 0 M26 (fun x27 M28 => (am_rg x25) ∧ (am_rg x27) ∧ (x25 ≤ x27 → wl_L_stretches_101 Q X k12 n v1 v2 v3 0 v5 v6 (v7 + 1) M28) ∧ (¬ x25 ≤ x27 → wl_L_stretches_101 Q X k12 n v1 v2 v3 1 v5 v6 (v7 + 1) M28)) X) X)) X) X) X))) X))
def wl_L_stretches_12 (Q : Int → am_M → Prop) (X : am_X) : Nat → Int → Int → Int → Int → Int → am_M → Prop
  | 0, _, _, _, _, _, _ => False
  | n + 1, v1, v2, v3, v4, v5, M => wp_X5_count 3 M (fun x1 M2 => (am_rg v5) ∧ (am_rg x1) ∧ (x1 ≤ v5 → wj_L_stretches_221 Q X v1 v2 v3 v4 M2) ∧ (¬ x1 ≤ v5 → (am_rg v4) ∧ (v4 = 0 → wj_L_stretches_221 Q X v1 v2 v3 v4 M2) ∧ (¬ v4 = 0 → wp_X5_stretch v5 1 M2 (fun x9 M10 => wp_X5_stretch v5 0 M10 (fun x11 M12 => (am_rg x11) ∧ (am_rg v1) ∧ (¬ x11 = v1 → ∃ e101, wl_L_stretches_101 Q X (wl_L_stretches_12 Q X n) e101 v1 v2 v3 0 v5 x9 v1 M12) ∧ (¬ (¬ x11 = v1) → (am_rg x9) ∧ (x9 ≤ 0 → ∃ e101, wl_L_stretches_101 Q X (wl_L_stretches_12 Q X n) e101 v1 v2 v3 0 v5 x9 v1 M12) ∧ (¬ x9 ≤ 0 → wp_X5_stretch v5 4 M12 (fun x29 M30 => (am_rg x29) ∧ (am_rg x9) ∧ (x9 < x29 → ∃ e101, wl_L_stretches_101 Q X (wl_L_stretches_12 Q X n) e101 v1 v2 v3 0 v5 x9 v1 M30) ∧ (¬ x9 < x29 → (am_rg v1) ∧ (v1 = 0 → ∃ e101, wl_L_stretches_101 Q X (wl_L_stretches_12 Q X n) e101 v1 v2 v3 1 v5 x9 v1 M30) ∧ (¬ v1 = 0 → wp_X5_point v1 0 M30 (fun x31 M32 => wp_X5_point (v1 - 1) 0 M32 (fun x33 M34 => wp_X5_setting 1 M34 (fun x35 M36 => (am_rg (x31 - x33)) ∧ (am_rg x35) ∧ ((x31 - x33) ≤ x35 → ∃ e101, wl_L_stretches_101 Q X (wl_L_stretches_12 Q X n) e101 v1 v2 v3 0 v5 x9 v1 M36) ∧ (¬ (x31 - x33) ≤ x35 → ∃ e101, wl_L_stretches_101 Q X (wl_L_stretches_12 Q X n) e101 v1 v2 v3 1 v5 x9 v1 M36)) X) X) X))) X))) X) X))) X
def wp_L_stretches (M : am_M) (Q : Int → am_M → Prop) (X : am_X) : Prop := ∃ e12, wl_L_stretches_12 Q X e12 0 0 0 1 0 M
set_option maxRecDepth 20000 in
theorem tj_L_stretches_221 {Q : Int → am_M → Prop} {X : am_X} {QX : am_X} (hX : ∀ E M, X E M → QX E M) (v1 : Int) (v2 : Int) (v3 : Int) (v4 : Int) (M : am_M) (h : wj_L_stretches_221 Q X v1 v2 v3 v4 M) : am_W (am_CC 7) dt_L_stretches 7 0 none (am_QI Q) QX (0, 221, [(0, .inr (.inl (some 0))), (1, .inl (v1)), (2, .inl (v2)), (3, .inl (v3)), (4, .inl (v4))], [], M) := by
  refine am_Wrun 1 (ps := []) (pc' := 223) (lv' := [(0, .inr (.inl (some 0))), (1, .inl (v1)), (2, .inl (v2)), (3, .inl (v3)), (4, .inl (v4))]) (st' := [.inl (v4)]) (M' := M) rfl trivial ?_
  obtain ⟨b0, ht, hf⟩ := h
  refine am_Wbr (P := [am_rg v4]) (c := v4 = 0) (t := 257) (f := 226) (st' := []) rfl rfl ⟨b0, trivial⟩ rfl (fun q => ?_) (fun q => ?_)
  · have h := ht q
    refine am_Wrun 1 (ps := []) (pc' := 258) (lv' := [(0, .inr (.inl (some 0))), (1, .inl (v1)), (2, .inl (v2)), (3, .inl (v3)), (4, .inl (v4))]) (st' := [.inl (0)]) (M' := M) rfl trivial ?_
    exact am_Wretz rfl rfl (Or.inl rfl) h
  · have h := hf q
    refine am_Wrun 3 (ps := []) (pc' := 229) (lv' := [(0, .inr (.inl (some 0))), (1, .inl (v1)), (2, .inl (v2)), (3, .inl (v3)), (4, .inl (v4))]) (st' := [.inl (0), .inr (.inl (some 0)), .inl (v1)]) (M' := M) rfl trivial ?_
    refine am_WcallV (y := 51) (n := 2) (a := 0) (f := 232) (as := [.inl (0)]) (st' := [.inl (v1)]) rfl rfl rfl rfl rfl rfl rfl rfl rfl rfl (Nat.zero_le _) rfl (am_CC_le (Nat.le_of_ble_eq_true rfl) (tm_X5_count h)) (fun r M4 q => ?_) (fun E M q => hX _ _ q)
    obtain ⟨x3, rfl, h⟩ := q
    obtain ⟨b0, b1, ht, hf⟩ := h
    refine am_Wbr (P := [am_rg v1, am_rg x3]) (c := ¬ v1 = x3) (t := 257) (f := 235) (st' := []) rfl rfl ⟨b0, b1, trivial⟩ rfl (fun q => ?_) (fun q => ?_)
    · have h := ht q
      refine am_Wrun 1 (ps := []) (pc' := 258) (lv' := [(0, .inr (.inl (some 0))), (1, .inl (v1)), (2, .inl (v2)), (3, .inl (v3)), (4, .inl (v4))]) (st' := [.inl (0)]) (M' := M4) rfl trivial ?_
      exact am_Wretz rfl rfl (Or.inl rfl) h
    · have h := hf q
      refine am_Wrun 3 (ps := []) (pc' := 238) (lv' := [(0, .inr (.inl (some 0))), (1, .inl (v1)), (2, .inl (v2)), (3, .inl (v3)), (4, .inl (v4))]) (st' := [.inl (1), .inr (.inl (some 0)), .inl (v2)]) (M' := M4) rfl trivial ?_
      refine am_WcallV (y := 51) (n := 2) (a := 0) (f := 241) (as := [.inl (1)]) (st' := [.inl (v2)]) rfl rfl rfl rfl rfl rfl rfl rfl rfl rfl (Nat.zero_le _) rfl (am_CC_le (Nat.le_of_ble_eq_true rfl) (tm_X5_count h)) (fun r M6 q => ?_) (fun E M q => hX _ _ q)
      obtain ⟨x5, rfl, h⟩ := q
      obtain ⟨b0, b1, ht, hf⟩ := h
      refine am_Wbr (P := [am_rg v2, am_rg x5]) (c := ¬ v2 = x5) (t := 257) (f := 244) (st' := []) rfl rfl ⟨b0, b1, trivial⟩ rfl (fun q => ?_) (fun q => ?_)
      · have h := ht q
        refine am_Wrun 1 (ps := []) (pc' := 258) (lv' := [(0, .inr (.inl (some 0))), (1, .inl (v1)), (2, .inl (v2)), (3, .inl (v3)), (4, .inl (v4))]) (st' := [.inl (0)]) (M' := M6) rfl trivial ?_
        exact am_Wretz rfl rfl (Or.inl rfl) h
      · have h := hf q
        refine am_Wrun 3 (ps := []) (pc' := 247) (lv' := [(0, .inr (.inl (some 0))), (1, .inl (v1)), (2, .inl (v2)), (3, .inl (v3)), (4, .inl (v4))]) (st' := [.inl (2), .inr (.inl (some 0)), .inl (v3)]) (M' := M6) rfl trivial ?_
        refine am_WcallV (y := 51) (n := 2) (a := 0) (f := 250) (as := [.inl (2)]) (st' := [.inl (v3)]) rfl rfl rfl rfl rfl rfl rfl rfl rfl rfl (Nat.zero_le _) rfl (am_CC_le (Nat.le_of_ble_eq_true rfl) (tm_X5_count h)) (fun r M8 q => ?_) (fun E M q => hX _ _ q)
        obtain ⟨x7, rfl, h⟩ := q
        obtain ⟨b0, b1, ht, hf⟩ := h
        refine am_Wbr (P := [am_rg v3, am_rg x7]) (c := ¬ v3 = x7) (t := 257) (f := 253) (st' := []) rfl rfl ⟨b0, b1, trivial⟩ rfl (fun q => ?_) (fun q => ?_)
        · have h := ht q
          refine am_Wrun 1 (ps := []) (pc' := 258) (lv' := [(0, .inr (.inl (some 0))), (1, .inl (v1)), (2, .inl (v2)), (3, .inl (v3)), (4, .inl (v4))]) (st' := [.inl (0)]) (M' := M8) rfl trivial ?_
          exact am_Wretz rfl rfl (Or.inl rfl) h
        · have h := hf q
          refine am_Wrun 2 (ps := []) (pc' := 258) (lv' := [(0, .inr (.inl (some 0))), (1, .inl (v1)), (2, .inl (v2)), (3, .inl (v3)), (4, .inl (v4))]) (st' := [.inl (1)]) (M' := M8) rfl trivial ?_
          exact am_Wretz rfl rfl (Or.inr rfl) h
set_option maxRecDepth 20000 in
theorem tj_L_stretches_190 {Q : Int → am_M → Prop} {X : am_X} {QX : am_X} {k12 : Int → Int → Int → Int → Int → am_M → Prop} (hk12 : ∀ (v1 : Int) (v2 : Int) (v3 : Int) (v4 : Int) (v5 : Int) (M : am_M), k12 v1 v2 v3 v4 v5 M → am_W (am_CC 7) dt_L_stretches 7 0 none (am_QI Q) QX (0, 12, [(0, .inr (.inl (some 0))), (1, .inl (v1)), (2, .inl (v2)), (3, .inl (v3)), (4, .inl (v4)), (5, .inl (v5))], [], M)) (hX : ∀ E M, X E M → QX E M) (v1 : Int) (v2 : Int) (v3 : Int) (v4 : Int) (v5 : Int) (v6 : Int) (M : am_M) (h : wj_L_stretches_190 Q X k12 v1 v2 v3 v4 v5 v6 M) : am_W (am_CC 7) dt_L_stretches 7 0 none (am_QI Q) QX (0, 190, [(0, .inr (.inl (some 0))), (1, .inl (v1)), (2, .inl (v2)), (3, .inl (v3)), (4, .inl (v4)), (5, .inl (v5)), (6, .inl (v6))], [], M) := by
  refine am_Wrun 8 (ps := []) (pc' := 200) (lv' := [(1, .inl (v1 + v6)), (0, .inr (.inl (some 0))), (2, .inl (v2)), (3, .inl (v3)), (4, .inl (v4)), (5, .inl (v5)), (6, .inl (v6))]) (st' := [.inl (2), .inl (v5), .inr (.inl (some 0)), .inl (v2)]) (M' := M) rfl trivial ?_
  refine am_WcallV (y := 47) (n := 3) (a := 0) (f := 203) (as := [.inl (v5), .inl (2)]) (st' := [.inl (v2)]) rfl rfl rfl rfl rfl rfl rfl rfl rfl rfl (Nat.zero_le _) rfl (am_CC_le (Nat.le_of_ble_eq_true rfl) (tm_X5_stretch h)) (fun r M14 q => ?_) (fun E M q => hX _ _ q)
  obtain ⟨x13, rfl, h⟩ := q
  refine am_Wrun 6 (ps := []) (pc' := 210) (lv' := [(2, .inl (v2 + x13)), (1, .inl (v1 + v6)), (0, .inr (.inl (some 0))), (3, .inl (v3)), (4, .inl (v4)), (5, .inl (v5)), (6, .inl (v6))]) (st' := [.inl (3), .inl (v5), .inr (.inl (some 0)), .inl (v3)]) (M' := M14) rfl trivial ?_
  refine am_WcallV (y := 47) (n := 3) (a := 0) (f := 213) (as := [.inl (v5), .inl (3)]) (st' := [.inl (v3)]) rfl rfl rfl rfl rfl rfl rfl rfl rfl rfl (Nat.zero_le _) rfl (am_CC_le (Nat.le_of_ble_eq_true rfl) (tm_X5_stretch h)) (fun r M16 q => ?_) (fun E M q => hX _ _ q)
  obtain ⟨x15, rfl, h⟩ := q
  refine am_Wrun 4 (ps := []) (pc' := 12) (lv' := [(5, .inl (v5 + 1)), (3, .inl (v3 + x15)), (2, .inl (v2 + x13)), (1, .inl (v1 + v6)), (0, .inr (.inl (some 0))), (4, .inl (v4)), (6, .inl (v6))]) (st' := []) (M' := M16) rfl trivial ?_
  refine am_W_sub [4, 3, 2, 1, 5, 0] rfl ?_
  exact hk12 (v1 + v6) (v2 + x13) (v3 + x15) v4 (v5 + 1) M16 h
set_option maxRecDepth 20000 in
theorem tw_L_stretches_101 {Q : Int → am_M → Prop} {X : am_X} {QX : am_X} {k12 : Int → Int → Int → Int → Int → am_M → Prop} (hk12 : ∀ (v1 : Int) (v2 : Int) (v3 : Int) (v4 : Int) (v5 : Int) (M : am_M), k12 v1 v2 v3 v4 v5 M → am_W (am_CC 7) dt_L_stretches 7 0 none (am_QI Q) QX (0, 12, [(0, .inr (.inl (some 0))), (1, .inl (v1)), (2, .inl (v2)), (3, .inl (v3)), (4, .inl (v4)), (5, .inl (v5))], [], M)) (hX : ∀ E M, X E M → QX E M) : ∀ (n : Nat) (v1 : Int) (v2 : Int) (v3 : Int) (v4 : Int) (v5 : Int) (v6 : Int) (v7 : Int) (M : am_M), wl_L_stretches_101 Q X k12 n v1 v2 v3 v4 v5 v6 v7 M → am_W (am_CC 7) dt_L_stretches 7 0 none (am_QI Q) QX (0, 101, [(0, .inr (.inl (some 0))), (1, .inl (v1)), (2, .inl (v2)), (3, .inl (v3)), (4, .inl (v4)), (5, .inl (v5)), (6, .inl (v6)), (7, .inl (v7))], [], M)
  | 0, _, _, _, _, _, _, _, _, h => h.elim
  | n + 1, v1, v2, v3, v4, v5, v6, v7, M, h => by
    refine am_Wrun 4 (ps := []) (pc' := 107) (lv' := [(0, .inr (.inl (some 0))), (1, .inl (v1)), (2, .inl (v2)), (3, .inl (v3)), (4, .inl (v4)), (5, .inl (v5)), (6, .inl (v6)), (7, .inl (v7))]) (st' := [.inl (v1 + v6), .inl (v7)]) (M' := M) rfl trivial ?_
    obtain ⟨b0, b1, ht, hf⟩ := h
    refine am_Wbr (P := [am_rg v7, am_rg (v1 + v6)]) (c := (v1 + v6) ≤ v7) (t := 190) (f := 110) (st' := []) rfl rfl ⟨b0, b1, trivial⟩ rfl (fun q => ?_) (fun q => ?_)
    · have h := ht q
      refine am_W_sub [0, 1, 2, 3, 4, 5, 6] rfl ?_
      exact tj_L_stretches_190 hk12 hX v1 v2 v3 v4 v5 v6 M h
    · have h := hf q
      refine am_Wrun 1 (ps := []) (pc' := 112) (lv' := [(0, .inr (.inl (some 0))), (1, .inl (v1)), (2, .inl (v2)), (3, .inl (v3)), (4, .inl (v4)), (5, .inl (v5)), (6, .inl (v6)), (7, .inl (v7))]) (st' := [.inl (v4)]) (M' := M) rfl trivial ?_
      obtain ⟨b0, ht, hf⟩ := h
      refine am_Wbr (P := [am_rg v4]) (c := v4 = 0) (t := 190) (f := 115) (st' := []) rfl rfl ⟨b0, trivial⟩ rfl (fun q => ?_) (fun q => ?_)
      · have h := ht q
        refine am_W_sub [0, 1, 2, 3, 4, 5, 6] rfl ?_
        exact tj_L_stretches_190 hk12 hX v1 v2 v3 v4 v5 v6 M h
      · have h := hf q
        refine am_Wrun 3 (ps := []) (pc' := 119) (lv' := [(0, .inr (.inl (some 0))), (1, .inl (v1)), (2, .inl (v2)), (3, .inl (v3)), (4, .inl (v4)), (5, .inl (v5)), (6, .inl (v6)), (7, .inl (v7))]) (st' := [.inl (4), .inl (v7), .inr (.inl (some 0))]) (M' := M) rfl trivial ?_
        refine am_WcallV (y := 66) (n := 3) (a := 0) (f := 122) (as := [.inl (v7), .inl (4)]) (st' := []) rfl rfl rfl rfl rfl rfl rfl rfl rfl rfl (Nat.zero_le _) rfl (am_CC_le (Nat.le_of_ble_eq_true rfl) (tm_X5_point h)) (fun r M18 q => ?_) (fun E M q => hX _ _ q)
        obtain ⟨x17, rfl, h⟩ := q
        refine am_Wrun 1 (ps := []) (pc' := 124) (lv' := [(0, .inr (.inl (some 0))), (1, .inl (v1)), (2, .inl (v2)), (3, .inl (v3)), (4, .inl (v4)), (5, .inl (v5)), (6, .inl (v6)), (7, .inl (v7))]) (st' := [.inl (v5), .inl (x17)]) (M' := M18) rfl trivial ?_
        obtain ⟨b0, b1, ht, hf⟩ := h
        refine am_Wbr (P := [am_rg x17, am_rg v5]) (c := ¬ x17 = v5) (t := 181) (f := 127) (st' := []) rfl rfl ⟨b0, b1, trivial⟩ rfl (fun q => ?_) (fun q => ?_)
        · have h := ht q
          refine am_Wrun 4 (ps := []) (pc' := 101) (lv' := [(7, .inl (v7 + 1)), (4, .inl (0)), (0, .inr (.inl (some 0))), (1, .inl (v1)), (2, .inl (v2)), (3, .inl (v3)), (5, .inl (v5)), (6, .inl (v6))]) (st' := []) (M' := M18) rfl trivial ?_
          refine am_W_sub [2, 3, 4, 5, 1, 6, 7, 0] rfl ?_
          exact tw_L_stretches_101 hk12 hX n v1 v2 v3 0 v5 v6 (v7 + 1) M18 h
        · have h := hf q
          refine am_Wrun 2 (ps := []) (pc' := 130) (lv' := [(0, .inr (.inl (some 0))), (1, .inl (v1)), (2, .inl (v2)), (3, .inl (v3)), (4, .inl (v4)), (5, .inl (v5)), (6, .inl (v6)), (7, .inl (v7))]) (st' := [.inl (v1), .inl (v7)]) (M' := M18) rfl trivial ?_
          obtain ⟨b0, b1, ht, hf⟩ := h
          refine am_Wbr (P := [am_rg v7, am_rg v1]) (c := v7 = v1) (t := 177) (f := 133) (st' := []) rfl rfl ⟨b0, b1, trivial⟩ rfl (fun q => ?_) (fun q => ?_)
          · have h := ht q
            refine am_Wrun 5 (ps := []) (pc' := 101) (lv' := [(7, .inl (v7 + 1)), (4, .inl (1)), (0, .inr (.inl (some 0))), (1, .inl (v1)), (2, .inl (v2)), (3, .inl (v3)), (5, .inl (v5)), (6, .inl (v6))]) (st' := []) (M' := M18) rfl trivial ?_
            refine am_W_sub [2, 3, 4, 5, 1, 6, 7, 0] rfl ?_
            exact tw_L_stretches_101 hk12 hX n v1 v2 v3 1 v5 v6 (v7 + 1) M18 h
          · have h := hf q
            refine am_Wrun 3 (ps := []) (pc' := 137) (lv' := [(0, .inr (.inl (some 0))), (1, .inl (v1)), (2, .inl (v2)), (3, .inl (v3)), (4, .inl (v4)), (5, .inl (v5)), (6, .inl (v6)), (7, .inl (v7))]) (st' := [.inl (0), .inl (v7), .inr (.inl (some 0))]) (M' := M18) rfl trivial ?_
            refine am_WcallV (y := 66) (n := 3) (a := 0) (f := 140) (as := [.inl (v7), .inl (0)]) (st' := []) rfl rfl rfl rfl rfl rfl rfl rfl rfl rfl (Nat.zero_le _) rfl (am_CC_le (Nat.le_of_ble_eq_true rfl) (tm_X5_point h)) (fun r M20 q => ?_) (fun E M q => hX _ _ q)
            obtain ⟨x19, rfl, h⟩ := q
            refine am_Wrun 5 (ps := []) (pc' := 146) (lv' := [(0, .inr (.inl (some 0))), (1, .inl (v1)), (2, .inl (v2)), (3, .inl (v3)), (4, .inl (v4)), (5, .inl (v5)), (6, .inl (v6)), (7, .inl (v7))]) (st' := [.inl (0), .inl (v7 - 1), .inr (.inl (some 0)), .inl (x19)]) (M' := M20) rfl trivial ?_
            refine am_WcallV (y := 66) (n := 3) (a := 0) (f := 149) (as := [.inl (v7 - 1), .inl (0)]) (st' := [.inl (x19)]) rfl rfl rfl rfl rfl rfl rfl rfl rfl rfl (Nat.zero_le _) rfl (am_CC_le (Nat.le_of_ble_eq_true rfl) (tm_X5_point h)) (fun r M22 q => ?_) (fun E M q => hX _ _ q)
            obtain ⟨x21, rfl, h⟩ := q
            refine am_Wrun 3 (ps := []) (pc' := 152) (lv' := [(0, .inr (.inl (some 0))), (1, .inl (v1)), (2, .inl (v2)), (3, .inl (v3)), (4, .inl (v4)), (5, .inl (v5)), (6, .inl (v6)), (7, .inl (v7))]) (st' := [.inl (1), .inr (.inl (some 0)), .inl (x19 - x21)]) (M' := M22) rfl trivial ?_
            refine am_WcallV (y := 61) (n := 2) (a := 0) (f := 155) (as := [.inl (1)]) (st' := [.inl (x19 - x21)]) rfl rfl rfl rfl rfl rfl rfl rfl rfl rfl (Nat.zero_le _) rfl (am_CC_le (Nat.le_of_ble_eq_true rfl) (tm_X5_setting h)) (fun r M24 q => ?_) (fun E M q => hX _ _ q)
            obtain ⟨x23, rfl, h⟩ := q
            obtain ⟨b0, b1, ht, hf⟩ := h
            refine am_Wbr (P := [am_rg (x19 - x21), am_rg x23]) (c := x23 < (x19 - x21)) (t := 181) (f := 158) (st' := []) rfl rfl ⟨b0, b1, trivial⟩ rfl (fun q => ?_) (fun q => ?_)
            · have h := ht q
              refine am_Wrun 4 (ps := []) (pc' := 101) (lv' := [(7, .inl (v7 + 1)), (4, .inl (0)), (0, .inr (.inl (some 0))), (1, .inl (v1)), (2, .inl (v2)), (3, .inl (v3)), (5, .inl (v5)), (6, .inl (v6))]) (st' := []) (M' := M24) rfl trivial ?_
              refine am_W_sub [2, 3, 4, 5, 1, 6, 7, 0] rfl ?_
              exact tw_L_stretches_101 hk12 hX n v1 v2 v3 0 v5 v6 (v7 + 1) M24 h
            · have h := hf q
              refine am_Wrun 3 (ps := []) (pc' := 162) (lv' := [(0, .inr (.inl (some 0))), (1, .inl (v1)), (2, .inl (v2)), (3, .inl (v3)), (4, .inl (v4)), (5, .inl (v5)), (6, .inl (v6)), (7, .inl (v7))]) (st' := [.inl (0), .inl (v7), .inr (.inl (some 0))]) (M' := M24) rfl trivial ?_
              refine am_WcallV (y := 66) (n := 3) (a := 0) (f := 165) (as := [.inl (v7), .inl (0)]) (st' := []) rfl rfl rfl rfl rfl rfl rfl rfl rfl rfl (Nat.zero_le _) rfl (am_CC_le (Nat.le_of_ble_eq_true rfl) (tm_X5_point h)) (fun r M26 q => ?_) (fun E M q => hX _ _ q)
              obtain ⟨x25, rfl, h⟩ := q
              refine am_Wrun 5 (ps := []) (pc' := 171) (lv' := [(0, .inr (.inl (some 0))), (1, .inl (v1)), (2, .inl (v2)), (3, .inl (v3)), (4, .inl (v4)), (5, .inl (v5)), (6, .inl (v6)), (7, .inl (v7))]) (st' := [.inl (0), .inl (v7 - 1), .inr (.inl (some 0)), .inl (x25)]) (M' := M26) rfl trivial ?_
              refine am_WcallV (y := 66) (n := 3) (a := 0) (f := 174) (as := [.inl (v7 - 1), .inl (0)]) (st' := [.inl (x25)]) rfl rfl rfl rfl rfl rfl rfl rfl rfl rfl (Nat.zero_le _) rfl (am_CC_le (Nat.le_of_ble_eq_true rfl) (tm_X5_point h)) (fun r M28 q => ?_) (fun E M q => hX _ _ q)
              obtain ⟨x27, rfl, h⟩ := q
              obtain ⟨b0, b1, ht, hf⟩ := h
              refine am_Wbr (P := [am_rg x25, am_rg x27]) (c := x25 ≤ x27) (t := 181) (f := 177) (st' := []) rfl rfl ⟨b0, b1, trivial⟩ rfl (fun q => ?_) (fun q => ?_)
              · have h := ht q
                refine am_Wrun 4 (ps := []) (pc' := 101) (lv' := [(7, .inl (v7 + 1)), (4, .inl (0)), (0, .inr (.inl (some 0))), (1, .inl (v1)), (2, .inl (v2)), (3, .inl (v3)), (5, .inl (v5)), (6, .inl (v6))]) (st' := []) (M' := M28) rfl trivial ?_
                refine am_W_sub [2, 3, 4, 5, 1, 6, 7, 0] rfl ?_
                exact tw_L_stretches_101 hk12 hX n v1 v2 v3 0 v5 v6 (v7 + 1) M28 h
              · have h := hf q
                refine am_Wrun 5 (ps := []) (pc' := 101) (lv' := [(7, .inl (v7 + 1)), (4, .inl (1)), (0, .inr (.inl (some 0))), (1, .inl (v1)), (2, .inl (v2)), (3, .inl (v3)), (5, .inl (v5)), (6, .inl (v6))]) (st' := []) (M' := M28) rfl trivial ?_
                refine am_W_sub [2, 3, 4, 5, 1, 6, 7, 0] rfl ?_
                exact tw_L_stretches_101 hk12 hX n v1 v2 v3 1 v5 v6 (v7 + 1) M28 h
set_option maxRecDepth 20000 in
theorem tw_L_stretches_12 {Q : Int → am_M → Prop} {X : am_X} {QX : am_X} (hX : ∀ E M, X E M → QX E M) : ∀ (n : Nat) (v1 : Int) (v2 : Int) (v3 : Int) (v4 : Int) (v5 : Int) (M : am_M), wl_L_stretches_12 Q X n v1 v2 v3 v4 v5 M → am_W (am_CC 7) dt_L_stretches 7 0 none (am_QI Q) QX (0, 12, [(0, .inr (.inl (some 0))), (1, .inl (v1)), (2, .inl (v2)), (3, .inl (v3)), (4, .inl (v4)), (5, .inl (v5))], [], M)
  | 0, _, _, _, _, _, _, h => h.elim
  | n + 1, v1, v2, v3, v4, v5, M, h => by
    refine am_Wrun 3 (ps := []) (pc' := 16) (lv' := [(0, .inr (.inl (some 0))), (1, .inl (v1)), (2, .inl (v2)), (3, .inl (v3)), (4, .inl (v4)), (5, .inl (v5))]) (st' := [.inl (3), .inr (.inl (some 0)), .inl (v5)]) (M' := M) rfl trivial ?_
    refine am_WcallV (y := 51) (n := 2) (a := 0) (f := 19) (as := [.inl (3)]) (st' := [.inl (v5)]) rfl rfl rfl rfl rfl rfl rfl rfl rfl rfl (Nat.zero_le _) rfl (am_CC_le (Nat.le_of_ble_eq_true rfl) (tm_X5_count h)) (fun r M2 q => ?_) (fun E M q => hX _ _ q)
    obtain ⟨x1, rfl, h⟩ := q
    obtain ⟨b0, b1, ht, hf⟩ := h
    refine am_Wbr (P := [am_rg v5, am_rg x1]) (c := x1 ≤ v5) (t := 221) (f := 22) (st' := []) rfl rfl ⟨b0, b1, trivial⟩ rfl (fun q => ?_) (fun q => ?_)
    · have h := ht q
      refine am_W_sub [0, 1, 2, 3, 4] rfl ?_
      exact tj_L_stretches_221 hX v1 v2 v3 v4 M2 h
    · have h := hf q
      refine am_Wrun 1 (ps := []) (pc' := 24) (lv' := [(0, .inr (.inl (some 0))), (1, .inl (v1)), (2, .inl (v2)), (3, .inl (v3)), (4, .inl (v4)), (5, .inl (v5))]) (st' := [.inl (v4)]) (M' := M2) rfl trivial ?_
      obtain ⟨b0, ht, hf⟩ := h
      refine am_Wbr (P := [am_rg v4]) (c := v4 = 0) (t := 221) (f := 27) (st' := []) rfl rfl ⟨b0, trivial⟩ rfl (fun q => ?_) (fun q => ?_)
      · have h := ht q
        refine am_W_sub [0, 1, 2, 3, 4] rfl ?_
        exact tj_L_stretches_221 hX v1 v2 v3 v4 M2 h
      · have h := hf q
        refine am_Wrun 3 (ps := []) (pc' := 31) (lv' := [(0, .inr (.inl (some 0))), (1, .inl (v1)), (2, .inl (v2)), (3, .inl (v3)), (4, .inl (v4)), (5, .inl (v5))]) (st' := [.inl (1), .inl (v5), .inr (.inl (some 0))]) (M' := M2) rfl trivial ?_
        refine am_WcallV (y := 47) (n := 3) (a := 0) (f := 34) (as := [.inl (v5), .inl (1)]) (st' := []) rfl rfl rfl rfl rfl rfl rfl rfl rfl rfl (Nat.zero_le _) rfl (am_CC_le (Nat.le_of_ble_eq_true rfl) (tm_X5_stretch h)) (fun r M10 q => ?_) (fun E M q => hX _ _ q)
        obtain ⟨x9, rfl, h⟩ := q
        refine am_Wrun 4 (ps := []) (pc' := 40) (lv' := [(6, .inl (x9)), (0, .inr (.inl (some 0))), (1, .inl (v1)), (2, .inl (v2)), (3, .inl (v3)), (4, .inl (v4)), (5, .inl (v5))]) (st' := [.inl (0), .inl (v5), .inr (.inl (some 0))]) (M' := M10) rfl trivial ?_
        refine am_WcallV (y := 47) (n := 3) (a := 0) (f := 43) (as := [.inl (v5), .inl (0)]) (st' := []) rfl rfl rfl rfl rfl rfl rfl rfl rfl rfl (Nat.zero_le _) rfl (am_CC_le (Nat.le_of_ble_eq_true rfl) (tm_X5_stretch h)) (fun r M12 q => ?_) (fun E M q => hX _ _ q)
        obtain ⟨x11, rfl, h⟩ := q
        refine am_Wrun 1 (ps := []) (pc' := 44) (lv' := [(6, .inl (x9)), (0, .inr (.inl (some 0))), (1, .inl (v1)), (2, .inl (v2)), (3, .inl (v3)), (4, .inl (v4)), (5, .inl (v5))]) (st' := [.inl (v1), .inl (x11)]) (M' := M12) rfl trivial ?_
        obtain ⟨b0, b1, ht, hf⟩ := h
        refine am_Wbr (P := [am_rg x11, am_rg v1]) (c := ¬ x11 = v1) (t := 95) (f := 47) (st' := []) rfl rfl ⟨b0, b1, trivial⟩ rfl (fun q => ?_) (fun q => ?_)
        · have h := ht q
          refine am_Wrun 4 (ps := []) (pc' := 101) (lv' := [(7, .inl (v1)), (4, .inl (0)), (6, .inl (x9)), (0, .inr (.inl (some 0))), (1, .inl (v1)), (2, .inl (v2)), (3, .inl (v3)), (5, .inl (v5))]) (st' := []) (M' := M12) rfl trivial ?_
          refine am_W_sub [3, 4, 5, 6, 1, 7, 2, 0] rfl ?_
          obtain ⟨n101, h⟩ := h
          exact tw_L_stretches_101 (tw_L_stretches_12 hX n) hX n101 v1 v2 v3 0 v5 x9 v1 M12 h
        · have h := hf q
          refine am_Wrun 1 (ps := []) (pc' := 49) (lv' := [(6, .inl (x9)), (0, .inr (.inl (some 0))), (1, .inl (v1)), (2, .inl (v2)), (3, .inl (v3)), (4, .inl (v4)), (5, .inl (v5))]) (st' := [.inl (x9)]) (M' := M12) rfl trivial ?_
          obtain ⟨b0, ht, hf⟩ := h
          refine am_Wbr (P := [am_rg x9]) (c := x9 ≤ 0) (t := 95) (f := 52) (st' := []) rfl rfl ⟨b0, trivial⟩ rfl (fun q => ?_) (fun q => ?_)
          · have h := ht q
            refine am_Wrun 4 (ps := []) (pc' := 101) (lv' := [(7, .inl (v1)), (4, .inl (0)), (6, .inl (x9)), (0, .inr (.inl (some 0))), (1, .inl (v1)), (2, .inl (v2)), (3, .inl (v3)), (5, .inl (v5))]) (st' := []) (M' := M12) rfl trivial ?_
            refine am_W_sub [3, 4, 5, 6, 1, 7, 2, 0] rfl ?_
            obtain ⟨n101, h⟩ := h
            exact tw_L_stretches_101 (tw_L_stretches_12 hX n) hX n101 v1 v2 v3 0 v5 x9 v1 M12 h
          · have h := hf q
            refine am_Wrun 3 (ps := []) (pc' := 56) (lv' := [(6, .inl (x9)), (0, .inr (.inl (some 0))), (1, .inl (v1)), (2, .inl (v2)), (3, .inl (v3)), (4, .inl (v4)), (5, .inl (v5))]) (st' := [.inl (4), .inl (v5), .inr (.inl (some 0))]) (M' := M12) rfl trivial ?_
            refine am_WcallV (y := 47) (n := 3) (a := 0) (f := 59) (as := [.inl (v5), .inl (4)]) (st' := []) rfl rfl rfl rfl rfl rfl rfl rfl rfl rfl (Nat.zero_le _) rfl (am_CC_le (Nat.le_of_ble_eq_true rfl) (tm_X5_stretch h)) (fun r M30 q => ?_) (fun E M q => hX _ _ q)
            obtain ⟨x29, rfl, h⟩ := q
            refine am_Wrun 1 (ps := []) (pc' := 61) (lv' := [(6, .inl (x9)), (0, .inr (.inl (some 0))), (1, .inl (v1)), (2, .inl (v2)), (3, .inl (v3)), (4, .inl (v4)), (5, .inl (v5))]) (st' := [.inl (x9), .inl (x29)]) (M' := M30) rfl trivial ?_
            obtain ⟨b0, b1, ht, hf⟩ := h
            refine am_Wbr (P := [am_rg x29, am_rg x9]) (c := x9 < x29) (t := 95) (f := 64) (st' := []) rfl rfl ⟨b0, b1, trivial⟩ rfl (fun q => ?_) (fun q => ?_)
            · have h := ht q
              refine am_Wrun 4 (ps := []) (pc' := 101) (lv' := [(7, .inl (v1)), (4, .inl (0)), (6, .inl (x9)), (0, .inr (.inl (some 0))), (1, .inl (v1)), (2, .inl (v2)), (3, .inl (v3)), (5, .inl (v5))]) (st' := []) (M' := M30) rfl trivial ?_
              refine am_W_sub [3, 4, 5, 6, 1, 7, 2, 0] rfl ?_
              obtain ⟨n101, h⟩ := h
              exact tw_L_stretches_101 (tw_L_stretches_12 hX n) hX n101 v1 v2 v3 0 v5 x9 v1 M30 h
            · have h := hf q
              refine am_Wrun 1 (ps := []) (pc' := 65) (lv' := [(6, .inl (x9)), (0, .inr (.inl (some 0))), (1, .inl (v1)), (2, .inl (v2)), (3, .inl (v3)), (4, .inl (v4)), (5, .inl (v5))]) (st' := [.inl (v1)]) (M' := M30) rfl trivial ?_
              obtain ⟨b0, ht, hf⟩ := h
              refine am_Wbr (P := [am_rg v1]) (c := v1 = 0) (t := 91) (f := 68) (st' := []) rfl rfl ⟨b0, trivial⟩ rfl (fun q => ?_) (fun q => ?_)
              · have h := ht q
                refine am_Wrun 5 (ps := []) (pc' := 101) (lv' := [(7, .inl (v1)), (4, .inl (1)), (6, .inl (x9)), (0, .inr (.inl (some 0))), (1, .inl (v1)), (2, .inl (v2)), (3, .inl (v3)), (5, .inl (v5))]) (st' := []) (M' := M30) rfl trivial ?_
                refine am_W_sub [3, 4, 5, 6, 1, 7, 2, 0] rfl ?_
                obtain ⟨n101, h⟩ := h
                exact tw_L_stretches_101 (tw_L_stretches_12 hX n) hX n101 v1 v2 v3 1 v5 x9 v1 M30 h
              · have h := hf q
                refine am_Wrun 3 (ps := []) (pc' := 71) (lv' := [(6, .inl (x9)), (0, .inr (.inl (some 0))), (1, .inl (v1)), (2, .inl (v2)), (3, .inl (v3)), (4, .inl (v4)), (5, .inl (v5))]) (st' := [.inl (0), .inl (v1), .inr (.inl (some 0))]) (M' := M30) rfl trivial ?_
                refine am_WcallV (y := 66) (n := 3) (a := 0) (f := 74) (as := [.inl (v1), .inl (0)]) (st' := []) rfl rfl rfl rfl rfl rfl rfl rfl rfl rfl (Nat.zero_le _) rfl (am_CC_le (Nat.le_of_ble_eq_true rfl) (tm_X5_point h)) (fun r M32 q => ?_) (fun E M q => hX _ _ q)
                obtain ⟨x31, rfl, h⟩ := q
                refine am_Wrun 5 (ps := []) (pc' := 79) (lv' := [(6, .inl (x9)), (0, .inr (.inl (some 0))), (1, .inl (v1)), (2, .inl (v2)), (3, .inl (v3)), (4, .inl (v4)), (5, .inl (v5))]) (st' := [.inl (0), .inl (v1 - 1), .inr (.inl (some 0)), .inl (x31)]) (M' := M32) rfl trivial ?_
                refine am_WcallV (y := 66) (n := 3) (a := 0) (f := 82) (as := [.inl (v1 - 1), .inl (0)]) (st' := [.inl (x31)]) rfl rfl rfl rfl rfl rfl rfl rfl rfl rfl (Nat.zero_le _) rfl (am_CC_le (Nat.le_of_ble_eq_true rfl) (tm_X5_point h)) (fun r M34 q => ?_) (fun E M q => hX _ _ q)
                obtain ⟨x33, rfl, h⟩ := q
                refine am_Wrun 3 (ps := []) (pc' := 85) (lv' := [(6, .inl (x9)), (0, .inr (.inl (some 0))), (1, .inl (v1)), (2, .inl (v2)), (3, .inl (v3)), (4, .inl (v4)), (5, .inl (v5))]) (st' := [.inl (1), .inr (.inl (some 0)), .inl (x31 - x33)]) (M' := M34) rfl trivial ?_
                refine am_WcallV (y := 61) (n := 2) (a := 0) (f := 88) (as := [.inl (1)]) (st' := [.inl (x31 - x33)]) rfl rfl rfl rfl rfl rfl rfl rfl rfl rfl (Nat.zero_le _) rfl (am_CC_le (Nat.le_of_ble_eq_true rfl) (tm_X5_setting h)) (fun r M36 q => ?_) (fun E M q => hX _ _ q)
                obtain ⟨x35, rfl, h⟩ := q
                obtain ⟨b0, b1, ht, hf⟩ := h
                refine am_Wbr (P := [am_rg (x31 - x33), am_rg x35]) (c := (x31 - x33) ≤ x35) (t := 95) (f := 91) (st' := []) rfl rfl ⟨b0, b1, trivial⟩ rfl (fun q => ?_) (fun q => ?_)
                · have h := ht q
                  refine am_Wrun 4 (ps := []) (pc' := 101) (lv' := [(7, .inl (v1)), (4, .inl (0)), (6, .inl (x9)), (0, .inr (.inl (some 0))), (1, .inl (v1)), (2, .inl (v2)), (3, .inl (v3)), (5, .inl (v5))]) (st' := []) (M' := M36) rfl trivial ?_
                  refine am_W_sub [3, 4, 5, 6, 1, 7, 2, 0] rfl ?_
                  obtain ⟨n101, h⟩ := h
                  exact tw_L_stretches_101 (tw_L_stretches_12 hX n) hX n101 v1 v2 v3 0 v5 x9 v1 M36 h
                · have h := hf q
                  refine am_Wrun 5 (ps := []) (pc' := 101) (lv' := [(7, .inl (v1)), (4, .inl (1)), (6, .inl (x9)), (0, .inr (.inl (some 0))), (1, .inl (v1)), (2, .inl (v2)), (3, .inl (v3)), (5, .inl (v5))]) (st' := []) (M' := M36) rfl trivial ?_
                  refine am_W_sub [3, 4, 5, 6, 1, 7, 2, 0] rfl ?_
                  obtain ⟨n101, h⟩ := h
                  exact tw_L_stretches_101 (tw_L_stretches_12 hX n) hX n101 v1 v2 v3 1 v5 x9 v1 M36 h
set_option maxRecDepth 20000 in
theorem tm_L_stretches {M : am_M} {Q : Int → am_M → Prop} {X : am_X} (h : wp_L_stretches M Q X) : am_CC 8 65 [.inr (.inl (some 0))] M (am_QI Q) X := by
  refine ⟨Nat.le_of_ble_eq_true rfl, ?_⟩
  show am_W (am_CC 7) dt_L_stretches 7 0 none (am_QI Q) (am_qx 65 X) (0, 0, [(0, .inr (.inl (some 0)))], [], M)
  have hX : ∀ E M, X E M → am_qx 65 X E M := fun E M q => ⟨⟨rfl, by decide⟩, q⟩
  refine am_Wrun 10 (ps := []) (pc' := 12) (lv' := [(5, .inl (0)), (4, .inl (1)), (3, .inl (0)), (2, .inl (0)), (1, .inl (0)), (0, .inr (.inl (some 0)))]) (st' := []) (M' := M) rfl trivial ?_
  refine am_W_sub [5, 4, 3, 2, 1, 0] rfl ?_
  obtain ⟨n12, h⟩ := h
  exact tw_L_stretches_12 hX n12 0 0 0 1 0 M h
abbrev dt_X1_leastMissed : am_D := (tk_X1_leastMissed, 1, 11, some .int, tb_hn 77)
def wj_X1_leastMissed_88 (Q : Int → am_M → Prop) (k11 : Int → Int → Int → Int → am_M → Prop) (v6 : Int) (v7 : Int) (v9 : Int) (M : am_M) : Prop := k11 v6 v7 v9 (v6 + 1) M
def wl_X1_leastMissed_11 (Q : Int → am_M → Prop) : Nat → Int → Int → Int → Int → am_M → Prop
  | 0, _, _, _, _, _ => False
  | n + 1, v1, v2, v4, v6, M => (am_rg v6) ∧ (am_rg (M 1 7)) ∧ ((M 1 7) ≤ v6 → Q v1 M) ∧ (¬ (M 1 7) ≤ v6 → wp_X1_reasonToKeep v6 M (fun x1 M2 => (am_rg x1) ∧ (¬ x1 = 0 → wl_X1_leastMissed_11 Q n v1 v2 v4 (v6 + 1) M2) ∧ (¬ (¬ x1 = 0) → wp_X2_earlierKept v6 M2 (fun x3 M4 => wp_X2_laterKept v6 M4 (fun x5 M6 => wp_X1_findWorst x3 x5 M6 (fun x7 M8 => (am_rg (M8 9 1)) ∧ (am_rg (M8 9 2)) ∧ ((am_rg v1) ∧ (v1 = (-1000000) → wj_X1_leastMissed_88 Q (wl_X1_leastMissed_11 Q n) v6 (M8 9 1) (M8 9 2) M8) ∧ (¬ v1 = (-1000000) → ((am_rl ((M8 9 1) * v4) ∧ am_rl (v2 * (M8 9 2))) ∨ ((M8 9 1) * v4) = (v2 * (M8 9 2))) ∧ ((am_rg (am_lci ((M8 9 1) * v4) (v2 * (M8 9 2)))) ∧ (0 ≤ (am_lci ((M8 9 1) * v4) (v2 * (M8 9 2))) → wl_X1_leastMissed_11 Q n v1 v2 v4 (v6 + 1) M8) ∧ (¬ 0 ≤ (am_lci ((M8 9 1) * v4) (v2 * (M8 9 2))) → wj_X1_leastMissed_88 Q (wl_X1_leastMissed_11 Q n) v6 (M8 9 1) (M8 9 2) M8))))))))))
def wp_X1_leastMissed (M : am_M) (Q : Int → am_M → Prop) : Prop := ∃ e11, wl_X1_leastMissed_11 Q e11 (-1000000) 0 1 0 M
set_option maxRecDepth 20000 in
theorem tj_X1_leastMissed_88 {Q : Int → am_M → Prop} {QX : am_X} {k11 : Int → Int → Int → Int → am_M → Prop} (hk11 : ∀ (v1 : Int) (v2 : Int) (v4 : Int) (v6 : Int) (M : am_M), k11 v1 v2 v4 v6 M → am_W (am_CC 4) dt_X1_leastMissed 4 0 none (am_QI Q) QX (0, 11, [(0, .inr (.inl (some 9))), (1, .inl (v1)), (2, .inr (.inr (.inl (v2)))), (4, .inr (.inr (.inl (v4)))), (6, .inl (v6))], [], M)) (v6 : Int) (v7 : Int) (v9 : Int) (M : am_M) (h : wj_X1_leastMissed_88 Q k11 v6 v7 v9 M) : am_W (am_CC 4) dt_X1_leastMissed 4 0 none (am_QI Q) QX (0, 88, [(0, .inr (.inl (some 9))), (6, .inl (v6)), (7, .inr (.inr (.inl (v7)))), (9, .inr (.inr (.inl (v9))))], [], M) := by
  refine am_Wrun 8 (ps := []) (pc' := 11) (lv' := [(6, .inl (v6 + 1)), (4, .inr (.inr (.inl (v9)))), (2, .inr (.inr (.inl (v7)))), (1, .inl (v6)), (0, .inr (.inl (some 9))), (7, .inr (.inr (.inl (v7)))), (9, .inr (.inr (.inl (v9))))]) (st' := []) (M' := M) rfl trivial ?_
  refine am_W_sub [4, 3, 2, 1, 0] rfl ?_
  exact hk11 v6 v7 v9 (v6 + 1) M h
set_option maxRecDepth 20000 in
theorem tw_X1_leastMissed_11 {Q : Int → am_M → Prop} {QX : am_X} : ∀ (n : Nat) (v1 : Int) (v2 : Int) (v4 : Int) (v6 : Int) (M : am_M), wl_X1_leastMissed_11 Q n v1 v2 v4 v6 M → am_W (am_CC 4) dt_X1_leastMissed 4 0 none (am_QI Q) QX (0, 11, [(0, .inr (.inl (some 9))), (1, .inl (v1)), (2, .inr (.inr (.inl (v2)))), (4, .inr (.inr (.inl (v4)))), (6, .inl (v6))], [], M)
  | 0, _, _, _, _, _, h => h.elim
  | n + 1, v1, v2, v4, v6, M, h => by
    refine am_Wrun 4 (ps := []) (pc' := 20) (lv' := [(0, .inr (.inl (some 9))), (1, .inl (v1)), (2, .inr (.inr (.inl (v2)))), (4, .inr (.inr (.inl (v4)))), (6, .inl (v6))]) (st' := [.inl (M 1 7), .inl (v6)]) (M' := M) rfl trivial ?_
    obtain ⟨b0, b1, ht, hf⟩ := h
    refine am_Wbr (P := [am_rg v6, am_rg (M 1 7)]) (c := (M 1 7) ≤ v6) (t := 104) (f := 23) (st' := []) rfl rfl ⟨b0, b1, trivial⟩ rfl (fun q => ?_) (fun q => ?_)
    · have h := ht q
      refine am_Wrun 1 (ps := []) (pc' := 105) (lv' := [(0, .inr (.inl (some 9))), (1, .inl (v1)), (2, .inr (.inr (.inl (v2)))), (4, .inr (.inr (.inl (v4)))), (6, .inl (v6))]) (st' := [.inl (v1)]) (M' := M) rfl trivial ?_
      exact am_Wreti rfl rfl h
    · have h := hf q
      refine am_Wrun 2 (ps := []) (pc' := 26) (lv' := [(0, .inr (.inl (some 9))), (1, .inl (v1)), (2, .inr (.inr (.inl (v2)))), (4, .inr (.inr (.inl (v4)))), (6, .inl (v6))]) (st' := [.inl (v6), .inr (.inl (some 9))]) (M' := M) rfl trivial ?_
      refine am_WcallV (y := 68) (n := 2) (a := 9) (f := 29) (as := [.inl (v6)]) (st' := []) rfl rfl rfl rfl rfl rfl rfl rfl rfl rfl (Nat.zero_le _) rfl (am_CC_le (Nat.le_of_ble_eq_true rfl) (tm_X1_reasonToKeep h)) (fun r M2 q => ?_) (fun _ _ q => q.elim)
      obtain ⟨x1, rfl, h⟩ := q
      obtain ⟨b0, ht, hf⟩ := h
      refine am_Wbr (P := [am_rg x1]) (c := ¬ x1 = 0) (t := 98) (f := 32) (st' := []) rfl rfl ⟨b0, trivial⟩ rfl (fun q => ?_) (fun q => ?_)
      · have h := ht q
        refine am_Wrun 2 (ps := []) (pc' := 11) (lv' := [(6, .inl (v6 + 1)), (0, .inr (.inl (some 9))), (1, .inl (v1)), (2, .inr (.inr (.inl (v2)))), (4, .inr (.inr (.inl (v4))))]) (st' := []) (M' := M2) rfl trivial ?_
        refine am_W_sub [1, 2, 3, 4, 0] rfl ?_
        exact tw_X1_leastMissed_11 n v1 v2 v4 (v6 + 1) M2 h
      · have h := hf q
        refine am_Wrun 4 (ps := []) (pc' := 39) (lv' := [(0, .inr (.inl (some 9))), (1, .inl (v1)), (2, .inr (.inr (.inl (v2)))), (4, .inr (.inr (.inl (v4)))), (6, .inl (v6))]) (st' := [.inl (v6), .inr (.inl (some 1)), .inr (.inl (some 9))]) (M' := M2) rfl trivial ?_
        refine am_WcallV (y := 10) (n := 2) (a := 1) (f := 42) (as := [.inl (v6)]) (st' := [.inr (.inl (some 9))]) rfl rfl rfl rfl rfl rfl rfl rfl rfl rfl (Nat.zero_le _) rfl (am_CC_le (Nat.le_of_ble_eq_true rfl) (tm_X2_earlierKept h)) (fun r M4 q => ?_) (fun _ _ q => q.elim)
        obtain ⟨x3, rfl, h⟩ := q
        refine am_Wrun 3 (ps := []) (pc' := 48) (lv' := [(0, .inr (.inl (some 9))), (1, .inl (v1)), (2, .inr (.inr (.inl (v2)))), (4, .inr (.inr (.inl (v4)))), (6, .inl (v6))]) (st' := [.inl (v6), .inr (.inl (some 1)), .inl (x3), .inr (.inl (some 9))]) (M' := M4) rfl trivial ?_
        refine am_WcallV (y := 13) (n := 2) (a := 1) (f := 51) (as := [.inl (v6)]) (st' := [.inl (x3), .inr (.inl (some 9))]) rfl rfl rfl rfl rfl rfl rfl rfl rfl rfl (Nat.zero_le _) rfl (am_CC_le (Nat.le_of_ble_eq_true rfl) (tm_X2_laterKept h)) (fun r M6 q => ?_) (fun _ _ q => q.elim)
        obtain ⟨x5, rfl, h⟩ := q
        refine am_WcallV (y := 22) (n := 3) (a := 9) (f := 54) (as := [.inl (x3), .inl (x5)]) (st' := []) rfl rfl rfl rfl rfl rfl rfl rfl rfl rfl (Nat.zero_le _) rfl (am_CC_le (Nat.le_of_ble_eq_true rfl) (tm_X1_findWorst h)) (fun r M8 q => ?_) (fun _ _ q => q.elim)
        obtain ⟨x7, rfl, h⟩ := q
        obtain ⟨c0_0, c1_0, h⟩ := h
        refine am_Wrun 11 (ps := [am_rg (M8 9 1), am_rg (M8 9 2)]) (pc' := 72) (lv' := [(9, .inr (.inr (.inl (M8 9 2)))), (7, .inr (.inr (.inl (M8 9 1)))), (0, .inr (.inl (some 9))), (1, .inl (v1)), (2, .inr (.inr (.inl (v2)))), (4, .inr (.inr (.inl (v4)))), (6, .inl (v6))]) (st' := [.inl ((-1000000)), .inl (v1)]) (M' := M8) rfl ⟨c0_0, c1_0, trivial⟩ ?_
        obtain ⟨b0, ht, hf⟩ := h
        refine am_Wbr (P := [am_rg v1, am_rg (-1000000)]) (c := v1 = (-1000000)) (t := 88) (f := 75) (st' := []) rfl rfl ⟨b0, (am_rgd rfl), trivial⟩ rfl (fun q => ?_) (fun q => ?_)
        · have h := ht q
          refine am_W_sub [2, 6, 1, 0] rfl ?_
          exact tj_X1_leastMissed_88 (tw_X1_leastMissed_11 n) v6 (M8 9 1) (M8 9 2) M8 h
        · have h := hf q
          obtain ⟨c0_0, h⟩ := h
          refine am_Wrun 7 (ps := [(am_rl ((M8 9 1) * v4) ∧ am_rl (v2 * (M8 9 2))) ∨ ((M8 9 1) * v4) = (v2 * (M8 9 2))]) (pc' := 85) (lv' := [(9, .inr (.inr (.inl (M8 9 2)))), (7, .inr (.inr (.inl (M8 9 1)))), (0, .inr (.inl (some 9))), (1, .inl (v1)), (2, .inr (.inr (.inl (v2)))), (4, .inr (.inr (.inl (v4)))), (6, .inl (v6))]) (st' := [.inl (am_lci ((M8 9 1) * v4) (v2 * (M8 9 2)))]) (M' := M8) rfl ⟨c0_0, trivial⟩ ?_
          obtain ⟨b0, ht, hf⟩ := h
          refine am_Wbr (P := [am_rg (am_lci ((M8 9 1) * v4) (v2 * (M8 9 2)))]) (c := 0 ≤ (am_lci ((M8 9 1) * v4) (v2 * (M8 9 2)))) (t := 98) (f := 88) (st' := []) rfl rfl ⟨b0, trivial⟩ rfl (fun q => ?_) (fun q => ?_)
          · have h := ht q
            refine am_Wrun 2 (ps := []) (pc' := 11) (lv' := [(6, .inl (v6 + 1)), (9, .inr (.inr (.inl (M8 9 2)))), (7, .inr (.inr (.inl (M8 9 1)))), (0, .inr (.inl (some 9))), (1, .inl (v1)), (2, .inr (.inr (.inl (v2)))), (4, .inr (.inr (.inl (v4))))]) (st' := []) (M' := M8) rfl trivial ?_
            refine am_W_sub [3, 4, 5, 6, 0] rfl ?_
            exact tw_X1_leastMissed_11 n v1 v2 v4 (v6 + 1) M8 h
          · have h := hf q
            refine am_W_sub [2, 6, 1, 0] rfl ?_
            exact tj_X1_leastMissed_88 (tw_X1_leastMissed_11 n) v6 (M8 9 1) (M8 9 2) M8 h
set_option maxRecDepth 20000 in
theorem tm_X1_leastMissed {M : am_M} {Q : Int → am_M → Prop} (h : wp_X1_leastMissed M Q) : am_CC 5 77 [.inr (.inl (some 9))] M (am_QI Q) (fun _ _ => False) := by
  refine ⟨Nat.le_of_ble_eq_true rfl, ?_⟩
  show am_W (am_CC 4) dt_X1_leastMissed 4 0 none (am_QI Q) (am_qx 77 (fun _ _ => False)) (0, 0, [(0, .inr (.inl (some 9)))], [], M)
  refine am_Wrun 8 (ps := []) (pc' := 11) (lv' := [(6, .inl (0)), (4, .inr (.inr (.inl (1)))), (2, .inr (.inr (.inl (0)))), (1, .inl ((-1000000))), (0, .inr (.inl (some 9)))]) (st' := []) (M' := M) rfl trivial ?_
  refine am_W_sub [4, 3, 2, 1, 0] rfl ?_
  obtain ⟨n11, h⟩ := h
  exact tw_X1_leastMissed_11 n11 (-1000000) 0 1 0 M h
abbrev dt_X5_cheapest : am_D := (tk_X5_cheapest, 5, 3, some .int, tb_hn 76)
def wp_X5_cheapest (a0 : Int) (M : am_M) (Q : Int → am_M → Prop) (X : am_X) : Prop := wp_X5_refuseOutside a0 1 M (fun M1 => wp_X1_leastMissed M1 (fun x2 M3 => (am_rg x2) ∧ (x2 = (-1000000) → Q x2 M3) ∧ (¬ x2 = (-1000000) → (am_rg a0) ∧ (¬ a0 = 0 → wp_X2_earlierKept x2 M3 (fun x4 M5 => wp_X2_laterKept x2 M5 (fun x6 M7 => wp_X1_findWorst x4 x6 M7 (fun x8 M9 => wp_X5_roundedUp (M9 9 1) (M9 9 2) M9 (fun x10 M11 => Q x10 M11))))) ∧ (¬ (¬ a0 = 0) → Q x2 M3)))) X
set_option maxRecDepth 20000 in
theorem tm_X5_cheapest {a0 : Int} {M : am_M} {Q : Int → am_M → Prop} {X : am_X} (h : wp_X5_cheapest a0 M Q X) : am_CC 7 76 [.inr (.inl (some 0)), .inl (a0)] M (am_QI Q) X := by
  refine ⟨Nat.le_of_ble_eq_true rfl, ?_⟩
  show am_W (am_CC 6) dt_X5_cheapest 6 0 none (am_QI Q) (am_qx 76 X) (0, 0, [(0, .inr (.inl (some 0))), (1, .inl (a0))], [], M)
  have hX : ∀ E M, X E M → am_qx 76 X E M := fun E M q => ⟨⟨rfl, by decide⟩, q⟩
  refine am_Wrun 2 (ps := []) (pc' := 2) (lv' := [(0, .inr (.inl (some 0))), (1, .inl (a0))]) (st' := [.inl (1), .inl (a0)]) (M' := M) rfl trivial ?_
  refine am_WcallS (y := 19) (n := 2) (f := 5) (co := 0) (as := [.inl (a0), .inl (1)]) (st' := []) rfl rfl rfl rfl rfl rfl rfl rfl rfl (Nat.zero_le _) rfl (am_CC_le (Nat.le_of_ble_eq_true rfl) (tm_X5_refuseOutside h)) (fun r M1 q => ?_) (fun E M q => hX _ _ q)
  obtain ⟨rfl, h⟩ := q
  refine am_Wrun 2 (ps := []) (pc' := 9) (lv' := [(0, .inr (.inl (some 0))), (1, .inl (a0))]) (st' := [.inr (.inl (some 9))]) (M' := M1) rfl trivial ?_
  refine am_WcallV (y := 77) (n := 1) (a := 9) (f := 12) (as := []) (st' := []) rfl rfl rfl rfl rfl rfl rfl rfl rfl rfl (Nat.zero_le _) rfl (am_CC_le (Nat.le_of_ble_eq_true rfl) (tm_X1_leastMissed h)) (fun r M3 q => ?_) (fun _ _ q => q.elim)
  obtain ⟨x2, rfl, h⟩ := q
  refine am_Wrun 3 (ps := []) (pc' := 16) (lv' := [(2, .inl (x2)), (0, .inr (.inl (some 0))), (1, .inl (a0))]) (st' := [.inl ((-1000000)), .inl (x2)]) (M' := M3) rfl trivial ?_
  obtain ⟨b0, ht, hf⟩ := h
  refine am_Wbr (P := [am_rg x2, am_rg (-1000000)]) (c := x2 = (-1000000)) (t := 23) (f := 19) (st' := []) rfl rfl ⟨b0, (am_rgd rfl), trivial⟩ rfl (fun q => ?_) (fun q => ?_)
  · have h := ht q
    refine am_Wrun 1 (ps := []) (pc' := 24) (lv' := [(2, .inl (x2)), (0, .inr (.inl (some 0))), (1, .inl (a0))]) (st' := [.inl (x2)]) (M' := M3) rfl trivial ?_
    exact am_Wreti rfl rfl h
  · have h := hf q
    refine am_Wrun 1 (ps := []) (pc' := 20) (lv' := [(2, .inl (x2)), (0, .inr (.inl (some 0))), (1, .inl (a0))]) (st' := [.inl (a0)]) (M' := M3) rfl trivial ?_
    obtain ⟨b0, ht, hf⟩ := h
    refine am_Wbr (P := [am_rg a0]) (c := ¬ a0 = 0) (t := 25) (f := 23) (st' := []) rfl rfl ⟨b0, trivial⟩ rfl (fun q => ?_) (fun q => ?_)
    · have h := ht q
      refine am_Wrun 5 (ps := []) (pc' := 34) (lv' := [(2, .inl (x2)), (0, .inr (.inl (some 0))), (1, .inl (a0))]) (st' := [.inl (x2), .inr (.inl (some 1)), .inr (.inl (some 9))]) (M' := M3) rfl trivial ?_
      refine am_WcallV (y := 10) (n := 2) (a := 1) (f := 37) (as := [.inl (x2)]) (st' := [.inr (.inl (some 9))]) rfl rfl rfl rfl rfl rfl rfl rfl rfl rfl (Nat.zero_le _) rfl (am_CC_le (Nat.le_of_ble_eq_true rfl) (tm_X2_earlierKept h)) (fun r M5 q => ?_) (fun _ _ q => q.elim)
      obtain ⟨x4, rfl, h⟩ := q
      refine am_Wrun 3 (ps := []) (pc' := 42) (lv' := [(2, .inl (x2)), (0, .inr (.inl (some 0))), (1, .inl (a0))]) (st' := [.inl (x2), .inr (.inl (some 1)), .inl (x4), .inr (.inl (some 9))]) (M' := M5) rfl trivial ?_
      refine am_WcallV (y := 13) (n := 2) (a := 1) (f := 45) (as := [.inl (x2)]) (st' := [.inl (x4), .inr (.inl (some 9))]) rfl rfl rfl rfl rfl rfl rfl rfl rfl rfl (Nat.zero_le _) rfl (am_CC_le (Nat.le_of_ble_eq_true rfl) (tm_X2_laterKept h)) (fun r M7 q => ?_) (fun _ _ q => q.elim)
      obtain ⟨x6, rfl, h⟩ := q
      refine am_WcallV (y := 22) (n := 3) (a := 9) (f := 48) (as := [.inl (x4), .inl (x6)]) (st' := []) rfl rfl rfl rfl rfl rfl rfl rfl rfl rfl (Nat.zero_le _) rfl (am_CC_le (Nat.le_of_ble_eq_true rfl) (tm_X1_findWorst h)) (fun r M9 q => ?_) (fun _ _ q => q.elim)
      obtain ⟨x8, rfl, h⟩ := q
      refine am_Wrun 7 (ps := []) (pc' := 63) (lv' := [(2, .inl (x2)), (0, .inr (.inl (some 0))), (1, .inl (a0))]) (st' := [.inl (M9 9 2), .inl (M9 9 1)]) (M' := M9) rfl trivial ?_
      refine am_WcallS (y := 24) (n := 2) (f := 66) (co := 0) (as := [.inl (M9 9 1), .inl (M9 9 2)]) (st' := []) rfl rfl rfl rfl rfl rfl rfl rfl rfl (Nat.zero_le _) rfl (am_CC_le (Nat.le_of_ble_eq_true rfl) (tm_X5_roundedUp h)) (fun r M11 q => ?_) (fun _ _ q => q.elim)
      obtain ⟨x10, rfl, h⟩ := q
      exact am_Wreti rfl rfl h
    · have h := hf q
      refine am_Wrun 1 (ps := []) (pc' := 24) (lv' := [(2, .inl (x2)), (0, .inr (.inl (some 0))), (1, .inl (a0))]) (st' := [.inl (x2)]) (M' := M3) rfl trivial ?_
      exact am_Wreti rfl rfl h
abbrev dt_X5_whyNot : am_D := (tk_X5_whyNot, 5, 2, some .int, tb_hn 78)
def wp_X5_whyNot (a0 : Int) (M : am_M) (Q : Int → am_M → Prop) (X : am_X) : Prop := wp_X5_refuseNoPoint a0 M (fun M1 => wp_X1_reasonToKeep a0 M1 (fun x2 M3 => Q x2 M3)) X
set_option maxRecDepth 20000 in
theorem tm_X5_whyNot {a0 : Int} {M : am_M} {Q : Int → am_M → Prop} {X : am_X} (h : wp_X5_whyNot a0 M Q X) : am_CC 7 78 [.inr (.inl (some 0)), .inl (a0)] M (am_QI Q) X := by
  refine ⟨Nat.le_of_ble_eq_true rfl, ?_⟩
  show am_W (am_CC 6) dt_X5_whyNot 6 0 none (am_QI Q) (am_qx 78 X) (0, 0, [(0, .inr (.inl (some 0))), (1, .inl (a0))], [], M)
  have hX : ∀ E M, X E M → am_qx 78 X E M := fun E M q => ⟨⟨rfl, by decide⟩, q⟩
  refine am_Wrun 2 (ps := []) (pc' := 2) (lv' := [(0, .inr (.inl (some 0))), (1, .inl (a0))]) (st' := [.inl (a0), .inr (.inl (some 0))]) (M' := M) rfl trivial ?_
  refine am_WcallV (y := 67) (n := 2) (a := 0) (f := 5) (as := [.inl (a0)]) (st' := []) rfl rfl rfl rfl rfl rfl rfl rfl rfl rfl (Nat.zero_le _) rfl (am_CC_le (Nat.le_of_ble_eq_true rfl) (tm_X5_refuseNoPoint h)) (fun r M1 q => ?_) (fun E M q => hX _ _ q)
  obtain ⟨rfl, h⟩ := q
  refine am_Wrun 3 (ps := []) (pc' := 10) (lv' := [(0, .inr (.inl (some 0))), (1, .inl (a0))]) (st' := [.inl (a0), .inr (.inl (some 9))]) (M' := M1) rfl trivial ?_
  refine am_WcallV (y := 68) (n := 2) (a := 9) (f := 13) (as := [.inl (a0)]) (st' := []) rfl rfl rfl rfl rfl rfl rfl rfl rfl rfl (Nat.zero_le _) rfl (am_CC_le (Nat.le_of_ble_eq_true rfl) (tm_X1_reasonToKeep h)) (fun r M3 q => ?_) (fun _ _ q => q.elim)
  obtain ⟨x2, rfl, h⟩ := q
  exact am_Wreti rfl rfl h
abbrev dt_X5_error : am_D := (tk_X5_error, 5, 3, some .int, tb_hn 72)
def wp_X5_error (a0 : Int) (a1 : Int) (M : am_M) (Q : Int → am_M → Prop) (X : am_X) : Prop := wp_X5_refuseNoPoint a0 M (fun M1 => wp_X5_refuseOutside a1 1 M1 (fun M2 => wp_X1_findError a0 M2 (fun x3 M4 => (am_rg x3) ∧ (¬ x3 = 0 → (am_rg a1) ∧ (¬ a1 = 0 → Q (M4 9 2) M4) ∧ (¬ (¬ a1 = 0) → Q (M4 9 1) M4)) ∧ (¬ (¬ x3 = 0) → Q (-1000000) M4))) X) X
set_option maxRecDepth 20000 in
theorem tm_X5_error {a0 a1 : Int} {M : am_M} {Q : Int → am_M → Prop} {X : am_X} (h : wp_X5_error a0 a1 M Q X) : am_CC 7 72 [.inr (.inl (some 0)), .inl (a0), .inl (a1)] M (am_QI Q) X := by
  refine ⟨Nat.le_of_ble_eq_true rfl, ?_⟩
  show am_W (am_CC 6) dt_X5_error 6 0 none (am_QI Q) (am_qx 72 X) (0, 0, [(0, .inr (.inl (some 0))), (1, .inl (a0)), (2, .inl (a1))], [], M)
  have hX : ∀ E M, X E M → am_qx 72 X E M := fun E M q => ⟨⟨rfl, by decide⟩, q⟩
  refine am_Wrun 2 (ps := []) (pc' := 2) (lv' := [(0, .inr (.inl (some 0))), (1, .inl (a0)), (2, .inl (a1))]) (st' := [.inl (a0), .inr (.inl (some 0))]) (M' := M) rfl trivial ?_
  refine am_WcallV (y := 67) (n := 2) (a := 0) (f := 5) (as := [.inl (a0)]) (st' := []) rfl rfl rfl rfl rfl rfl rfl rfl rfl rfl (Nat.zero_le _) rfl (am_CC_le (Nat.le_of_ble_eq_true rfl) (tm_X5_refuseNoPoint h)) (fun r M1 q => ?_) (fun E M q => hX _ _ q)
  obtain ⟨rfl, h⟩ := q
  refine am_Wrun 2 (ps := []) (pc' := 7) (lv' := [(0, .inr (.inl (some 0))), (1, .inl (a0)), (2, .inl (a1))]) (st' := [.inl (1), .inl (a1)]) (M' := M1) rfl trivial ?_
  refine am_WcallS (y := 19) (n := 2) (f := 10) (co := 0) (as := [.inl (a1), .inl (1)]) (st' := []) rfl rfl rfl rfl rfl rfl rfl rfl rfl (Nat.zero_le _) rfl (am_CC_le (Nat.le_of_ble_eq_true rfl) (tm_X5_refuseOutside h)) (fun r M2 q => ?_) (fun E M q => hX _ _ q)
  obtain ⟨rfl, h⟩ := q
  refine am_Wrun 3 (ps := []) (pc' := 15) (lv' := [(0, .inr (.inl (some 0))), (1, .inl (a0)), (2, .inl (a1))]) (st' := [.inl (a0), .inr (.inl (some 9))]) (M' := M2) rfl trivial ?_
  refine am_WcallV (y := 59) (n := 2) (a := 9) (f := 18) (as := [.inl (a0)]) (st' := []) rfl rfl rfl rfl rfl rfl rfl rfl rfl rfl (Nat.zero_le _) rfl (am_CC_le (Nat.le_of_ble_eq_true rfl) (tm_X1_findError h)) (fun r M4 q => ?_) (fun _ _ q => q.elim)
  obtain ⟨x3, rfl, h⟩ := q
  obtain ⟨b0, ht, hf⟩ := h
  refine am_Wbr (P := [am_rg x3]) (c := ¬ x3 = 0) (t := 24) (f := 21) (st' := []) rfl rfl ⟨b0, trivial⟩ rfl (fun q => ?_) (fun q => ?_)
  · have h := ht q
    refine am_Wrun 1 (ps := []) (pc' := 25) (lv' := [(0, .inr (.inl (some 0))), (1, .inl (a0)), (2, .inl (a1))]) (st' := [.inl (a1)]) (M' := M4) rfl trivial ?_
    obtain ⟨b0, ht, hf⟩ := h
    refine am_Wbr (P := [am_rg a1]) (c := ¬ a1 = 0) (t := 38) (f := 28) (st' := []) rfl rfl ⟨b0, trivial⟩ rfl (fun q => ?_) (fun q => ?_)
    · have h := ht q
      refine am_Wrun 3 (ps := []) (pc' := 45) (lv' := [(0, .inr (.inl (some 0))), (1, .inl (a0)), (2, .inl (a1))]) (st' := [.inl (M4 9 2)]) (M' := M4) rfl trivial ?_
      exact am_Wreti rfl rfl h
    · have h := hf q
      refine am_Wrun 4 (ps := []) (pc' := 45) (lv' := [(0, .inr (.inl (some 0))), (1, .inl (a0)), (2, .inl (a1))]) (st' := [.inl (M4 9 1)]) (M' := M4) rfl trivial ?_
      exact am_Wreti rfl rfl h
  · have h := hf q
    refine am_Wrun 1 (ps := []) (pc' := 23) (lv' := [(0, .inr (.inl (some 0))), (1, .inl (a0)), (2, .inl (a1))]) (st' := [.inl ((-1000000))]) (M' := M4) rfl trivial ?_
    exact am_Wreti rfl rfl h
abbrev dt_X5_isTime : am_D := (tk_X5_isTime, 5, 1, some .boolean, tb_hn 74)
def wp_X5_isTime (a0 : Int) (M : am_M) (Q : Int → am_M → Prop) : Prop := (am_rg a0) ∧ (a0 < 0 → Q 0 M) ∧ (¬ a0 < 0 → (am_rg a0) ∧ (9999 < a0 → Q 0 M) ∧ (¬ 9999 < a0 → Q 1 M))
set_option maxRecDepth 20000 in
theorem tm_X5_isTime {a0 : Int} {M : am_M} {Q : Int → am_M → Prop} (h : wp_X5_isTime a0 M Q) : am_CC 1 74 [.inl (a0)] M (am_QI Q) (fun _ _ => False) := by
  refine ⟨Nat.le_of_ble_eq_true rfl, ?_⟩
  show am_W (am_CC 0) dt_X5_isTime 0 0 none (am_QI Q) (am_qx 74 (fun _ _ => False)) (0, 0, [(0, .inl (a0))], [], M)
  refine am_Wrun 1 (ps := []) (pc' := 1) (lv' := [(0, .inl (a0))]) (st' := [.inl (a0)]) (M' := M) rfl trivial ?_
  obtain ⟨b0, ht, hf⟩ := h
  refine am_Wbr (P := [am_rg a0]) (c := a0 < 0) (t := 15) (f := 4) (st' := []) rfl rfl ⟨b0, trivial⟩ rfl (fun q => ?_) (fun q => ?_)
  · have h := ht q
    refine am_Wrun 1 (ps := []) (pc' := 16) (lv' := [(0, .inl (a0))]) (st' := [.inl (0)]) (M' := M) rfl trivial ?_
    exact am_Wretz rfl rfl (Or.inl rfl) h
  · have h := hf q
    refine am_Wrun 2 (ps := [-32768 ≤ (9999 : Int) ∧ (9999 : Int) ≤ 32767]) (pc' := 8) (lv' := [(0, .inl (a0))]) (st' := [.inl (9999), .inl (a0)]) (M' := M) rfl ⟨⟨by decide, by decide⟩, trivial⟩ ?_
    obtain ⟨b0, ht, hf⟩ := h
    refine am_Wbr (P := [am_rg a0, am_rg 9999]) (c := 9999 < a0) (t := 15) (f := 11) (st' := []) rfl rfl ⟨b0, (am_rgd rfl), trivial⟩ rfl (fun q => ?_) (fun q => ?_)
    · have h := ht q
      refine am_Wrun 1 (ps := []) (pc' := 16) (lv' := [(0, .inl (a0))]) (st' := [.inl (0)]) (M' := M) rfl trivial ?_
      exact am_Wretz rfl rfl (Or.inl rfl) h
    · have h := hf q
      refine am_Wrun 2 (ps := []) (pc' := 16) (lv' := [(0, .inl (a0))]) (st' := [.inl (1)]) (M' := M) rfl trivial ?_
      exact am_Wretz rfl rfl (Or.inr rfl) h
abbrev dt_X5_reading : am_D := (tk_X5_reading, 5, 3, some .int, tb_hn 73)
def wp_X5_reading (a0 : Int) (a1 : Int) (M : am_M) (Q : Int → am_M → Prop) (X : am_X) : Prop := wp_X5_isTime a0 M (fun x1 M2 => (am_rg x1) ∧ (¬ x1 = 0 → wp_X5_refuseOutside a1 1 M2 (fun M3 => wp_X1_findReading a0 M3 (fun x4 M5 => (am_rg x4) ∧ (¬ x4 = 0 → (am_rg a1) ∧ (¬ a1 = 0 → Q (M5 9 2) M5) ∧ (¬ (¬ a1 = 0) → Q (M5 9 1) M5)) ∧ (¬ (¬ x4 = 0) → Q (-1000000) M5))) X) ∧ (¬ (¬ x1 = 0) → X 0 M2))
set_option maxRecDepth 20000 in
theorem tm_X5_reading {a0 a1 : Int} {M : am_M} {Q : Int → am_M → Prop} {X : am_X} (h : wp_X5_reading a0 a1 M Q X) : am_CC 7 73 [.inr (.inl (some 0)), .inl (a0), .inl (a1)] M (am_QI Q) X := by
  refine ⟨Nat.le_of_ble_eq_true rfl, ?_⟩
  show am_W (am_CC 6) dt_X5_reading 6 0 none (am_QI Q) (am_qx 73 X) (0, 0, [(0, .inr (.inl (some 0))), (1, .inl (a0)), (2, .inl (a1))], [], M)
  have hX : ∀ E M, X E M → am_qx 73 X E M := fun E M q => ⟨⟨rfl, by decide⟩, q⟩
  refine am_Wrun 1 (ps := []) (pc' := 1) (lv' := [(0, .inr (.inl (some 0))), (1, .inl (a0)), (2, .inl (a1))]) (st' := [.inl (a0)]) (M' := M) rfl trivial ?_
  refine am_WcallS (y := 74) (n := 1) (f := 4) (co := 0) (as := [.inl (a0)]) (st' := []) rfl rfl rfl rfl rfl rfl rfl rfl rfl (Nat.zero_le _) rfl (am_CC_le (Nat.le_of_ble_eq_true rfl) (tm_X5_isTime h)) (fun r M2 q => ?_) (fun _ _ q => q.elim)
  obtain ⟨x1, rfl, h⟩ := q
  obtain ⟨b0, ht, hf⟩ := h
  refine am_Wbr (P := [am_rg x1]) (c := ¬ x1 = 0) (t := 17) (f := 7) (st' := []) rfl rfl ⟨b0, trivial⟩ rfl (fun q => ?_) (fun q => ?_)
  · have h := ht q
    refine am_Wrun 2 (ps := []) (pc' := 19) (lv' := [(0, .inr (.inl (some 0))), (1, .inl (a0)), (2, .inl (a1))]) (st' := [.inl (1), .inl (a1)]) (M' := M2) rfl trivial ?_
    refine am_WcallS (y := 19) (n := 2) (f := 22) (co := 0) (as := [.inl (a1), .inl (1)]) (st' := []) rfl rfl rfl rfl rfl rfl rfl rfl rfl (Nat.zero_le _) rfl (am_CC_le (Nat.le_of_ble_eq_true rfl) (tm_X5_refuseOutside h)) (fun r M3 q => ?_) (fun E M q => hX _ _ q)
    obtain ⟨rfl, h⟩ := q
    refine am_Wrun 3 (ps := []) (pc' := 27) (lv' := [(0, .inr (.inl (some 0))), (1, .inl (a0)), (2, .inl (a1))]) (st' := [.inl (a0), .inr (.inl (some 9))]) (M' := M3) rfl trivial ?_
    refine am_WcallV (y := 54) (n := 2) (a := 9) (f := 30) (as := [.inl (a0)]) (st' := []) rfl rfl rfl rfl rfl rfl rfl rfl rfl rfl (Nat.zero_le _) rfl (am_CC_le (Nat.le_of_ble_eq_true rfl) (tm_X1_findReading h)) (fun r M5 q => ?_) (fun _ _ q => q.elim)
    obtain ⟨x4, rfl, h⟩ := q
    obtain ⟨b0, ht, hf⟩ := h
    refine am_Wbr (P := [am_rg x4]) (c := ¬ x4 = 0) (t := 36) (f := 33) (st' := []) rfl rfl ⟨b0, trivial⟩ rfl (fun q => ?_) (fun q => ?_)
    · have h := ht q
      refine am_Wrun 1 (ps := []) (pc' := 37) (lv' := [(0, .inr (.inl (some 0))), (1, .inl (a0)), (2, .inl (a1))]) (st' := [.inl (a1)]) (M' := M5) rfl trivial ?_
      obtain ⟨b0, ht, hf⟩ := h
      refine am_Wbr (P := [am_rg a1]) (c := ¬ a1 = 0) (t := 50) (f := 40) (st' := []) rfl rfl ⟨b0, trivial⟩ rfl (fun q => ?_) (fun q => ?_)
      · have h := ht q
        refine am_Wrun 3 (ps := []) (pc' := 57) (lv' := [(0, .inr (.inl (some 0))), (1, .inl (a0)), (2, .inl (a1))]) (st' := [.inl (M5 9 2)]) (M' := M5) rfl trivial ?_
        exact am_Wreti rfl rfl h
      · have h := hf q
        refine am_Wrun 4 (ps := []) (pc' := 57) (lv' := [(0, .inr (.inl (some 0))), (1, .inl (a0)), (2, .inl (a1))]) (st' := [.inl (M5 9 1)]) (M' := M5) rfl trivial ?_
        exact am_Wreti rfl rfl h
    · have h := hf q
      refine am_Wrun 1 (ps := []) (pc' := 35) (lv' := [(0, .inr (.inl (some 0))), (1, .inl (a0)), (2, .inl (a1))]) (st' := [.inl ((-1000000))]) (M' := M5) rfl trivial ?_
      exact am_Wreti rfl rfl h
  · have h := hf q
    exact am_Wthr (is := 238) (ic := 63) (E := 0) rfl (Nat.le_of_ble_eq_true rfl) rfl rfl rfl rfl (Or.inl ⟨rfl, rfl, rfl⟩) (hX _ _ h)
