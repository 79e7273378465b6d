abbrev dt_X1_shorten : am_D := (tk_X1_shorten, 1, 2, none, tb_hn 21)
def wp_X1_shorten (M : am_M) (Q : am_M → Prop) : Prop := (am_rg (M 9 1)) ∧ (wp_X1_commonDivisor (if 0 ≤ (M 9 1) then (M 9 1) else 0 - (M 9 1)) (M 9 2) M (fun x1 M2 => (am_rg x1) ∧ (x1 ≤ 0 → Q M2) ∧ (¬ x1 ≤ 0 → (am_rg (M2 9 1) ∧ am_rg x1 ∧ (0 : Int) < x1) ∧ (am_rg ((am_up M2 9 1 (Int.tdiv (M2 9 1) x1)) 9 2) ∧ am_rg x1 ∧ (0 : Int) < x1) ∧ (Q (am_up (am_up M2 9 1 (Int.tdiv (M2 9 1) x1)) 9 2 (Int.tdiv ((am_up M2 9 1 (Int.tdiv (M2 9 1) x1)) 9 2) x1))))))
set_option maxRecDepth 20000 in
theorem tm_X1_shorten {M : am_M} {Q : am_M → Prop} (h : wp_X1_shorten M Q) : am_CC 2 21 [.inr (.inl (some 9))] M (am_QV Q) (fun _ _ => False) := by
  refine ⟨Nat.le_of_ble_eq_true rfl, ?_⟩
  show am_W (am_CC 1) dt_X1_shorten 1 0 none (am_QV Q) (am_qx 21 (fun _ _ => False)) (0, 0, [(0, .inr (.inl (some 9)))], [], M)
  obtain ⟨c0_0, h⟩ := h
  refine am_Wrun 5 (ps := [am_rg (M 9 1) ∧ am_cs [] ≤ 8]) (pc' := 11) (lv' := [(0, .inr (.inl (some 9)))]) (st' := [.inl (M 9 2), .inl (if 0 ≤ (M 9 1) then (M 9 1) else 0 - (M 9 1))]) (M' := M) rfl ⟨⟨c0_0, (by decide)⟩, trivial⟩ ?_
  refine am_WcallS (y := 22) (n := 2) (f := 14) (co := 0) (as := [.inl (if 0 ≤ (M 9 1) then (M 9 1) else 0 - (M 9 1)), .inl (M 9 2)]) (st' := []) rfl rfl rfl rfl rfl rfl rfl rfl rfl (Nat.zero_le _) rfl (am_CC_le (Nat.le_of_ble_eq_true rfl) (tm_X1_commonDivisor h)) (fun r M2 q => ?_) (fun _ _ q => q.elim)
  obtain ⟨x1, rfl, h⟩ := q
  refine am_Wrun 2 (ps := []) (pc' := 16) (lv' := [(1, .inl (x1)), (0, .inr (.inl (some 9)))]) (st' := [.inl (x1)]) (M' := M2) rfl trivial ?_
  obtain ⟨b0, ht, hf⟩ := h
  refine am_Wbr (P := [am_rg x1]) (c := x1 ≤ 0) (t := 39) (f := 19) (st' := []) rfl rfl ⟨b0, trivial⟩ rfl (fun q => ?_) (fun q => ?_)
  · have h := ht q
    exact am_Wretv rfl rfl h
  · have h := hf q
    obtain ⟨c0_0, c1_0, h⟩ := h
    refine am_Wrun 12 (ps := [am_rg (M2 9 1) ∧ am_rg x1 ∧ (0 : Int) < x1, am_rg ((am_up M2 9 1 (Int.tdiv (M2 9 1) x1)) 9 2) ∧ am_rg x1 ∧ (0 : Int) < x1]) (pc' := 39) (lv' := [(1, .inl (x1)), (0, .inr (.inl (some 9)))]) (st' := []) (M' := (am_up (am_up M2 9 1 (Int.tdiv (M2 9 1) x1)) 9 2 (Int.tdiv ((am_up M2 9 1 (Int.tdiv (M2 9 1) x1)) 9 2) x1))) rfl ⟨c0_0, c1_0, trivial⟩ ?_
    exact am_Wretv rfl rfl h
abbrev dt_X1_findReading : am_D := (tk_X1_findReading, 1, 7, some .boolean, tb_hn 19)
def wj_X1_findReading_157 (Q : Int → am_M → Prop) (v1 : Int) (v3 : Int) (v6 : Int) (s0 : Int) (M : am_M) : Prop := (0 ≤ (v3 : Int) ∧ (v3 : Int) < 60) ∧ (0 ≤ (v3 : Int) ∧ (v3 : Int) < 60) ∧ (wp_X1_shorten (am_up (am_up M 9 2 s0) 9 1 ((((am_up M 9 2 s0) 3 v3) * ((am_up M 9 2 s0) 9 2)) + (v6 * (v1 - ((am_up M 9 2 s0) 2 v3))))) (fun M13 => Q 1 M13))
def wj_X1_findReading_125 (Q : Int → am_M → Prop) (v1 : Int) (v3 : Int) (v4 : Int) (v5 : Int) (s0 : Int) (M : am_M) : Prop := (am_rg v5) ∧ (v5 = 0 → (0 ≤ (v4 : Int) ∧ (v4 : Int) < 60) ∧ (0 ≤ (v3 : Int) ∧ (v3 : Int) < 60) ∧ (wj_X1_findReading_157 Q v1 v3 s0 ((M 2 v4) - (M 2 v3)) M)) ∧ (¬ v5 = 0 → wj_X1_findReading_157 Q v1 v3 s0 1 M)
def wj_X1_findReading_53 (Q : Int → am_M → Prop) (v1 : Int) (v2 : Int) (M : am_M) : Prop := wp_X2_keptBelow v2 M (fun x5 M6 => wp_X2_keptFrom v2 M6 (fun x7 M8 => wp_X2_sameStretch x5 x7 M8 (fun x9 M10 => (am_rg x9) ∧ (¬ x9 = 0 → wp_X2_isStep M10 (fun x11 M12 => (am_rg x11) ∧ (x11 = 0 → (0 ≤ (x7 : Int) ∧ (x7 : Int) < 60) ∧ (0 ≤ (x5 : Int) ∧ (x5 : Int) < 60) ∧ (wj_X1_findReading_125 Q v1 x5 x7 x11 ((M12 3 x7) - (M12 3 x5)) M12)) ∧ (¬ x11 = 0 → wj_X1_findReading_125 Q v1 x5 x7 x11 0 M12))) ∧ (¬ (¬ x9 = 0) → Q 0 M10))))
def wp_X1_findReading (a0 : Int) (M : am_M) (Q : Int → am_M → Prop) : Prop := wp_X2_placeOf a0 M (fun x1 M2 => wp_X2_isKept x1 M2 (fun x3 M4 => (am_rg x3) ∧ (x3 = 0 → wj_X1_findReading_53 Q a0 x1 M4) ∧ (¬ x3 = 0 → (0 ≤ (x1 : Int) ∧ (x1 : Int) < 60) ∧ ((am_rg (M4 2 x1)) ∧ (am_rg a0) ∧ (¬ (M4 2 x1) = a0 → wj_X1_findReading_53 Q a0 x1 M4) ∧ (¬ (¬ (M4 2 x1) = a0) → (0 ≤ (x1 : Int) ∧ (x1 : Int) < 60) ∧ (Q 1 (am_up (am_up M4 9 1 (M4 3 x1)) 9 2 1)))))))
set_option maxRecDepth 20000 in
theorem tj_X1_findReading_157 {Q : Int → am_M → Prop} {QX : am_X} (v1 : Int) (v3 : Int) (v6 : Int) (s0 : Int) (M : am_M) (h : wj_X1_findReading_157 Q v1 v3 v6 s0 M) : am_W (am_CC 2) dt_X1_findReading 2 0 none (am_QI Q) QX (0, 157, [(0, .inr (.inl (some 9))), (1, .inl (v1)), (3, .inl (v3)), (6, .inl (v6))], [.inl (s0), .inr (.inl (some 9))], M) := by
  obtain ⟨c0_0, c1_0, h⟩ := h
  refine am_Wrun 22 (ps := [0 ≤ (v3 : Int) ∧ (v3 : Int) < 60, 0 ≤ (v3 : Int) ∧ (v3 : Int) < 60]) (pc' := 194) (lv' := [(0, .inr (.inl (some 9))), (1, .inl (v1)), (3, .inl (v3)), (6, .inl (v6))]) (st' := [.inr (.inl (some 9))]) (M' := (am_up (am_up M 9 2 s0) 9 1 ((((am_up M 9 2 s0) 3 v3) * ((am_up M 9 2 s0) 9 2)) + (v6 * (v1 - ((am_up M 9 2 s0) 2 v3)))))) rfl ⟨c0_0, c1_0, trivial⟩ ?_
  refine am_WcallV (y := 21) (n := 1) (a := 9) (f := 197) (as := []) (st' := []) rfl rfl rfl rfl rfl rfl rfl rfl rfl rfl (Nat.zero_le _) rfl (am_CC_le (Nat.le_of_ble_eq_true rfl) (tm_X1_shorten h)) (fun r M13 q => ?_) (fun _ _ q => q.elim)
  obtain ⟨rfl, h⟩ := q
  refine am_Wrun 1 (ps := []) (pc' := 198) (lv' := [(0, .inr (.inl (some 9))), (1, .inl (v1)), (3, .inl (v3)), (6, .inl (v6))]) (st' := [.inl (1)]) (M' := M13) rfl trivial ?_
  exact am_Wretz rfl rfl (Or.inr rfl) h
set_option maxRecDepth 20000 in
theorem tj_X1_findReading_125 {Q : Int → am_M → Prop} {QX : am_X} (v1 : Int) (v3 : Int) (v4 : Int) (v5 : Int) (s0 : Int) (M : am_M) (h : wj_X1_findReading_125 Q v1 v3 v4 v5 s0 M) : am_W (am_CC 2) dt_X1_findReading 2 0 none (am_QI Q) QX (0, 125, [(0, .inr (.inl (some 9))), (1, .inl (v1)), (3, .inl (v3)), (4, .inl (v4)), (5, .inl (v5))], [.inl (s0)], M) := by
  refine am_Wrun 3 (ps := []) (pc' := 130) (lv' := [(6, .inl (s0)), (0, .inr (.inl (some 9))), (1, .inl (v1)), (3, .inl (v3)), (4, .inl (v4)), (5, .inl (v5))]) (st' := [.inl (v5), .inr (.inl (some 9))]) (M' := M) rfl trivial ?_
  obtain ⟨b0, ht, hf⟩ := h
  refine am_Wbr (P := [am_rg v5]) (c := v5 = 0) (t := 137) (f := 133) (st' := [.inr (.inl (some 9))]) rfl rfl ⟨b0, trivial⟩ rfl (fun q => ?_) (fun q => ?_)
  · have h := ht q
    obtain ⟨c0_0, c1_0, h⟩ := h
    refine am_Wrun 11 (ps := [0 ≤ (v4 : Int) ∧ (v4 : Int) < 60, 0 ≤ (v3 : Int) ∧ (v3 : Int) < 60]) (pc' := 157) (lv' := [(6, .inl (s0)), (0, .inr (.inl (some 9))), (1, .inl (v1)), (3, .inl (v3)), (4, .inl (v4)), (5, .inl (v5))]) (st' := [.inl ((M 2 v4) - (M 2 v3)), .inr (.inl (some 9))]) (M' := M) rfl ⟨c0_0, c1_0, trivial⟩ ?_
    refine am_W_sub [1, 2, 3, 0] rfl ?_
    exact tj_X1_findReading_157 v1 v3 s0 ((M 2 v4) - (M 2 v3)) M h
  · have h := hf q
    refine am_Wrun 2 (ps := []) (pc' := 157) (lv' := [(6, .inl (s0)), (0, .inr (.inl (some 9))), (1, .inl (v1)), (3, .inl (v3)), (4, .inl (v4)), (5, .inl (v5))]) (st' := [.inl (1), .inr (.inl (some 9))]) (M' := M) rfl trivial ?_
    refine am_W_sub [1, 2, 3, 0] rfl ?_
    exact tj_X1_findReading_157 v1 v3 s0 1 M h
set_option maxRecDepth 20000 in
theorem tj_X1_findReading_53 {Q : Int → am_M → Prop} {QX : am_X} (v1 : Int) (v2 : Int) (M : am_M) (h : wj_X1_findReading_53 Q v1 v2 M) : am_W (am_CC 2) dt_X1_findReading 2 0 none (am_QI Q) QX (0, 53, [(0, .inr (.inl (some 9))), (1, .inl (v1)), (2, .inl (v2))], [], M) := by
  refine am_Wrun 3 (ps := []) (pc' := 58) (lv' := [(0, .inr (.inl (some 9))), (1, .inl (v1)), (2, .inl (v2))]) (st' := [.inl (v2), .inr (.inl (some 1))]) (M' := M) rfl trivial ?_
  refine am_WcallV (y := 11) (n := 2) (a := 1) (f := 61) (as := [.inl (v2)]) (st' := []) rfl rfl rfl rfl rfl rfl rfl rfl rfl rfl (Nat.zero_le _) rfl (am_CC_le (Nat.le_of_ble_eq_true rfl) (tm_X2_keptBelow h)) (fun r M6 q => ?_) (fun _ _ q => q.elim)
  obtain ⟨x5, rfl, h⟩ := q
  refine am_Wrun 4 (ps := []) (pc' := 67) (lv' := [(3, .inl (x5)), (0, .inr (.inl (some 9))), (1, .inl (v1)), (2, .inl (v2))]) (st' := [.inl (v2), .inr (.inl (some 1))]) (M' := M6) rfl trivial ?_
  refine am_WcallV (y := 14) (n := 2) (a := 1) (f := 70) (as := [.inl (v2)]) (st' := []) rfl rfl rfl rfl rfl rfl rfl rfl rfl rfl (Nat.zero_le _) rfl (am_CC_le (Nat.le_of_ble_eq_true rfl) (tm_X2_keptFrom h)) (fun r M8 q => ?_) (fun _ _ q => q.elim)
  obtain ⟨x7, rfl, h⟩ := q
  refine am_Wrun 5 (ps := []) (pc' := 79) (lv' := [(4, .inl (x7)), (3, .inl (x5)), (0, .inr (.inl (some 9))), (1, .inl (v1)), (2, .inl (v2))]) (st' := [.inl (x7), .inl (x5), .inr (.inl (some 1))]) (M' := M8) rfl trivial ?_
  refine am_WcallV (y := 12) (n := 3) (a := 1) (f := 82) (as := [.inl (x5), .inl (x7)]) (st' := []) rfl rfl rfl rfl rfl rfl rfl rfl rfl rfl (Nat.zero_le _) rfl (am_CC_le (Nat.le_of_ble_eq_true rfl) (tm_X2_sameStretch h)) (fun r M10 q => ?_) (fun _ _ q => q.elim)
  obtain ⟨x9, rfl, h⟩ := q
  obtain ⟨b0, ht, hf⟩ := h
  refine am_Wbr (P := [am_rg x9]) (c := ¬ x9 = 0) (t := 87) (f := 85) (st' := []) rfl rfl ⟨b0, trivial⟩ rfl (fun q => ?_) (fun q => ?_)
  · have h := ht q
    refine am_Wrun 2 (ps := []) (pc' := 91) (lv' := [(4, .inl (x7)), (3, .inl (x5)), (0, .inr (.inl (some 9))), (1, .inl (v1)), (2, .inl (v2))]) (st' := [.inr (.inl (some 1))]) (M' := M10) rfl trivial ?_
    refine am_WcallV (y := 16) (n := 1) (a := 1) (f := 94) (as := []) (st' := []) rfl rfl rfl rfl rfl rfl rfl rfl rfl rfl (Nat.zero_le _) rfl (am_CC_le (Nat.le_of_ble_eq_true rfl) (tm_X2_isStep h)) (fun r M12 q => ?_) (fun _ _ q => q.elim)
    obtain ⟨x11, rfl, h⟩ := q
    refine am_Wrun 2 (ps := []) (pc' := 98) (lv' := [(5, .inl (x11)), (4, .inl (x7)), (3, .inl (x5)), (0, .inr (.inl (some 9))), (1, .inl (v1)), (2, .inl (v2))]) (st' := [.inl (x11)]) (M' := M12) rfl trivial ?_
    obtain ⟨b0, ht, hf⟩ := h
    refine am_Wbr (P := [am_rg x11]) (c := x11 = 0) (t := 105) (f := 101) (st' := []) rfl rfl ⟨b0, trivial⟩ rfl (fun q => ?_) (fun q => ?_)
    · have h := ht q
      obtain ⟨c0_0, c1_0, h⟩ := h
      refine am_Wrun 11 (ps := [0 ≤ (x7 : Int) ∧ (x7 : Int) < 60, 0 ≤ (x5 : Int) ∧ (x5 : Int) < 60]) (pc' := 125) (lv' := [(5, .inl (x11)), (4, .inl (x7)), (3, .inl (x5)), (0, .inr (.inl (some 9))), (1, .inl (v1)), (2, .inl (v2))]) (st' := [.inl ((M12 3 x7) - (M12 3 x5))]) (M' := M12) rfl ⟨c0_0, c1_0, trivial⟩ ?_
      refine am_W_sub [3, 4, 2, 1, 0] rfl ?_
      exact tj_X1_findReading_125 v1 x5 x7 x11 ((M12 3 x7) - (M12 3 x5)) M12 h
    · have h := hf q
      refine am_Wrun 2 (ps := []) (pc' := 125) (lv' := [(5, .inl (x11)), (4, .inl (x7)), (3, .inl (x5)), (0, .inr (.inl (some 9))), (1, .inl (v1)), (2, .inl (v2))]) (st' := [.inl (0)]) (M' := M12) rfl trivial ?_
      refine am_W_sub [3, 4, 2, 1, 0] rfl ?_
      exact tj_X1_findReading_125 v1 x5 x7 x11 0 M12 h
  · have h := hf q
    refine am_Wrun 1 (ps := []) (pc' := 86) (lv' := [(4, .inl (x7)), (3, .inl (x5)), (0, .inr (.inl (some 9))), (1, .inl (v1)), (2, .inl (v2))]) (st' := [.inl (0)]) (M' := M10) rfl trivial ?_
    exact am_Wretz rfl rfl (Or.inl rfl) h
set_option maxRecDepth 20000 in
theorem tm_X1_findReading {a0 : Int} {M : am_M} {Q : Int → am_M → Prop} (h : wp_X1_findReading a0 M Q) : am_CC 3 19 [.inr (.inl (some 9)), .inl (a0)] M (am_QI Q) (fun _ _ => False) := by
  refine ⟨Nat.le_of_ble_eq_true rfl, ?_⟩
  show am_W (am_CC 2) dt_X1_findReading 2 0 none (am_QI Q) (am_qx 19 (fun _ _ => False)) (0, 0, [(0, .inr (.inl (some 9))), (1, .inl (a0))], [], M)
  refine am_Wrun 3 (ps := []) (pc' := 5) (lv' := [(0, .inr (.inl (some 9))), (1, .inl (a0))]) (st' := [.inl (a0), .inr (.inl (some 1))]) (M' := M) rfl trivial ?_
  refine am_WcallV (y := 20) (n := 2) (a := 1) (f := 8) (as := [.inl (a0)]) (st' := []) rfl rfl rfl rfl rfl rfl rfl rfl rfl rfl (Nat.zero_le _) rfl (am_CC_le (Nat.le_of_ble_eq_true rfl) (tm_X2_placeOf h)) (fun r M2 q => ?_) (fun _ _ q => q.elim)
  obtain ⟨x1, rfl, h⟩ := q
  refine am_Wrun 4 (ps := []) (pc' := 14) (lv' := [(2, .inl (x1)), (0, .inr (.inl (some 9))), (1, .inl (a0))]) (st' := [.inl (x1), .inr (.inl (some 1))]) (M' := M2) rfl trivial ?_
  refine am_WcallV (y := 8) (n := 2) (a := 1) (f := 17) (as := [.inl (x1)]) (st' := []) rfl rfl rfl rfl rfl rfl rfl rfl rfl rfl (Nat.zero_le _) rfl (am_CC_le (Nat.le_of_ble_eq_true rfl) (tm_X2_isKept h)) (fun r M4 q => ?_) (fun _ _ q => q.elim)
  obtain ⟨x3, rfl, h⟩ := q
  obtain ⟨b0, ht, hf⟩ := h
  refine am_Wbr (P := [am_rg x3]) (c := x3 = 0) (t := 53) (f := 20) (st' := []) rfl rfl ⟨b0, trivial⟩ rfl (fun q => ?_) (fun q => ?_)
  · have h := ht q
    refine am_W_sub [1, 2, 0] rfl ?_
    exact tj_X1_findReading_53 a0 x1 M4 h
  · have h := hf q
    obtain ⟨c0_0, h⟩ := h
    refine am_Wrun 6 (ps := [0 ≤ (x1 : Int) ∧ (x1 : Int) < 60]) (pc' := 30) (lv' := [(2, .inl (x1)), (0, .inr (.inl (some 9))), (1, .inl (a0))]) (st' := [.inl (a0), .inl (M4 2 x1)]) (M' := M4) rfl ⟨c0_0, trivial⟩ ?_
    obtain ⟨b0, b1, ht, hf⟩ := h
    refine am_Wbr (P := [am_rg (M4 2 x1), am_rg a0]) (c := ¬ (M4 2 x1) = a0) (t := 53) (f := 33) (st' := []) rfl rfl ⟨b0, b1, trivial⟩ rfl (fun q => ?_) (fun q => ?_)
    · have h := ht q
      refine am_W_sub [1, 2, 0] rfl ?_
      exact tj_X1_findReading_53 a0 x1 M4 h
    · have h := hf q
      obtain ⟨c0_0, h⟩ := h
      refine am_Wrun 11 (ps := [0 ≤ (x1 : Int) ∧ (x1 : Int) < 60]) (pc' := 52) (lv' := [(2, .inl (x1)), (0, .inr (.inl (some 9))), (1, .inl (a0))]) (st' := [.inl (1)]) (M' := (am_up (am_up M4 9 1 (M4 3 x1)) 9 2 1)) rfl ⟨c0_0, trivial⟩ ?_
      exact am_Wretz rfl rfl (Or.inr rfl) h
abbrev dt_X1_isTrue : am_D := (tk_X1_isTrue, 1, 2, some .boolean, tb_hn 18)
def wp_X1_isTrue (a0 : Int) (M : am_M) (Q : Int → am_M → Prop) : Prop := (am_rg a0) ∧ (a0 < 0 → Q 0 M) ∧ (¬ a0 < 0 → (am_rg a0) ∧ (am_rg (M 1 8)) ∧ ((M 1 8) ≤ a0 → Q 0 M) ∧ (¬ (M 1 8) ≤ a0 → (0 ≤ (a0 : Int) ∧ (a0 : Int) < 8) ∧ (wp_X1_findReading (M 7 a0) M (fun x1 M2 => (am_rg x1) ∧ (¬ x1 = 0 → (0 ≤ (a0 : Int) ∧ (a0 : Int) < 8) ∧ (am_rg (((M2 8 a0) * (M2 9 2)) - (M2 9 1))) ∧ ((am_rg (if 0 ≤ (((M2 8 a0) * (M2 9 2)) - (M2 9 1)) then (((M2 8 a0) * (M2 9 2)) - (M2 9 1)) else 0 - (((M2 8 a0) * (M2 9 2)) - (M2 9 1)))) ∧ (am_rg ((M2 6 0) * (M2 9 2))) ∧ (((M2 6 0) * (M2 9 2)) < (if 0 ≤ (((M2 8 a0) * (M2 9 2)) - (M2 9 1)) then (((M2 8 a0) * (M2 9 2)) - (M2 9 1)) else 0 - (((M2 8 a0) * (M2 9 2)) - (M2 9 1))) → Q 0 M2) ∧ (¬ ((M2 6 0) * (M2 9 2)) < (if 0 ≤ (((M2 8 a0) * (M2 9 2)) - (M2 9 1)) then (((M2 8 a0) * (M2 9 2)) - (M2 9 1)) else 0 - (((M2 8 a0) * (M2 9 2)) - (M2 9 1))) → Q 1 M2))) ∧ (¬ (¬ x1 = 0) → Q 0 M2)))))
set_option maxRecDepth 20000 in
theorem tm_X1_isTrue {a0 : Int} {M : am_M} {Q : Int → am_M → Prop} (h : wp_X1_isTrue a0 M Q) : am_CC 4 18 [.inr (.inl (some 9)), .inl (a0)] M (am_QI Q) (fun _ _ => False) := by
  refine ⟨Nat.le_of_ble_eq_true rfl, ?_⟩
  show am_W (am_CC 3) dt_X1_isTrue 3 0 none (am_QI Q) (am_qx 18 (fun _ _ => False)) (0, 0, [(0, .inr (.inl (some 9))), (1, .inl (a0))], [], M)
  refine am_Wrun 1 (ps := []) (pc' := 1) (lv' := [(0, .inr (.inl (some 9))), (1, .inl (a0))]) (st' := [.inl (a0)]) (M' := M) rfl trivial ?_
  obtain ⟨b0, ht, hf⟩ := h
  refine am_Wbr (P := [am_rg a0]) (c := a0 < 0) (t := 31) (f := 4) (st' := []) rfl rfl ⟨b0, trivial⟩ rfl (fun q => ?_) (fun q => ?_)
  · have h := ht q
    refine am_Wrun 1 (ps := []) (pc' := 32) (lv' := [(0, .inr (.inl (some 9))), (1, .inl (a0))]) (st' := [.inl (0)]) (M' := M) rfl trivial ?_
    exact am_Wretz rfl rfl (Or.inl rfl) h
  · have h := hf q
    refine am_Wrun 4 (ps := []) (pc' := 12) (lv' := [(0, .inr (.inl (some 9))), (1, .inl (a0))]) (st' := [.inl (M 1 8), .inl (a0)]) (M' := M) rfl trivial ?_
    obtain ⟨b0, b1, ht, hf⟩ := h
    refine am_Wbr (P := [am_rg a0, am_rg (M 1 8)]) (c := (M 1 8) ≤ a0) (t := 31) (f := 15) (st' := []) rfl rfl ⟨b0, b1, trivial⟩ rfl (fun q => ?_) (fun q => ?_)
    · have h := ht q
      refine am_Wrun 1 (ps := []) (pc' := 32) (lv' := [(0, .inr (.inl (some 9))), (1, .inl (a0))]) (st' := [.inl (0)]) (M' := M) rfl trivial ?_
      exact am_Wretz rfl rfl (Or.inl rfl) h
    · have h := hf q
      obtain ⟨c0_0, h⟩ := h
      refine am_Wrun 6 (ps := [0 ≤ (a0 : Int) ∧ (a0 : Int) < 8]) (pc' := 25) (lv' := [(0, .inr (.inl (some 9))), (1, .inl (a0))]) (st' := [.inl (M 7 a0), .inr (.inl (some 9))]) (M' := M) rfl ⟨c0_0, trivial⟩ ?_
      refine am_WcallV (y := 19) (n := 2) (a := 9) (f := 28) (as := [.inl (M 7 a0)]) (st' := []) rfl rfl rfl rfl rfl rfl rfl rfl rfl rfl (Nat.zero_le _) rfl (am_CC_le (Nat.le_of_ble_eq_true rfl) (tm_X1_findReading h)) (fun r M2 q => ?_) (fun _ _ q => q.elim)
      obtain ⟨x1, rfl, h⟩ := q
      obtain ⟨b0, ht, hf⟩ := h
      refine am_Wbr (P := [am_rg x1]) (c := ¬ x1 = 0) (t := 33) (f := 31) (st' := []) rfl rfl ⟨b0, trivial⟩ rfl (fun q => ?_) (fun q => ?_)
      · have h := ht q
        obtain ⟨c0_0, c1_0, h⟩ := h
        refine am_Wrun 20 (ps := [0 ≤ (a0 : Int) ∧ (a0 : Int) < 8, am_rg (((M2 8 a0) * (M2 9 2)) - (M2 9 1)) ∧ am_cs [] ≤ 8, 0 ≤ (0 : Int) ∧ (0 : Int) < 3]) (pc' := 69) (lv' := [(0, .inr (.inl (some 9))), (1, .inl (a0))]) (st' := [.inl ((M2 6 0) * (M2 9 2)), .inl (if 0 ≤ (((M2 8 a0) * (M2 9 2)) - (M2 9 1)) then (((M2 8 a0) * (M2 9 2)) - (M2 9 1)) else 0 - (((M2 8 a0) * (M2 9 2)) - (M2 9 1)))]) (M' := M2) rfl ⟨c0_0, ⟨c1_0, (by decide)⟩, ⟨by decide, by decide⟩, trivial⟩ ?_
        obtain ⟨b0, b1, ht, hf⟩ := h
        refine am_Wbr (P := [am_rg (if 0 ≤ (((M2 8 a0) * (M2 9 2)) - (M2 9 1)) then (((M2 8 a0) * (M2 9 2)) - (M2 9 1)) else 0 - (((M2 8 a0) * (M2 9 2)) - (M2 9 1))), am_rg ((M2 6 0) * (M2 9 2))]) (c := ((M2 6 0) * (M2 9 2)) < (if 0 ≤ (((M2 8 a0) * (M2 9 2)) - (M2 9 1)) then (((M2 8 a0) * (M2 9 2)) - (M2 9 1)) else 0 - (((M2 8 a0) * (M2 9 2)) - (M2 9 1)))) (t := 76) (f := 72) (st' := []) rfl rfl ⟨b0, b1, trivial⟩ rfl (fun q => ?_) (fun q => ?_)
        · have h := ht q
          refine am_Wrun 1 (ps := []) (pc' := 77) (lv' := [(0, .inr (.inl (some 9))), (1, .inl (a0))]) (st' := [.inl (0)]) (M' := M2) rfl trivial ?_
          exact am_Wretz rfl rfl (Or.inl rfl) h
        · have h := hf q
          refine am_Wrun 2 (ps := []) (pc' := 77) (lv' := [(0, .inr (.inl (some 9))), (1, .inl (a0))]) (st' := [.inl (1)]) (M' := M2) rfl trivial ?_
          exact am_Wretz rfl rfl (Or.inr rfl) h
      · have h := hf q
        refine am_Wrun 1 (ps := []) (pc' := 32) (lv' := [(0, .inr (.inl (some 9))), (1, .inl (a0))]) (st' := [.inl (0)]) (M' := M2) rfl trivial ?_
        exact am_Wretz rfl rfl (Or.inl rfl) h
abbrev dt_X5_strike : am_D := (tk_X5_strike, 5, 3, some .int, tb_hn 17)
def wl_X5_strike_15 (Q : Int → am_M → Prop) : Nat → Int → Int → am_M → Prop
  | 0, _, _, _ => False
  | n + 1, v1, v2, M => (am_rg v2) ∧ (am_rg (M 1 8)) ∧ ((M 1 8) ≤ v2 → Q v1 (am_up M 1 8 v1)) ∧ (¬ (M 1 8) ≤ v2 → wp_X1_isTrue v2 M (fun x2 M3 => (am_rg x2) ∧ (¬ x2 = 0 → wl_X5_strike_15 Q n v1 (v2 + 1) M3) ∧ (¬ (¬ x2 = 0) → (0 ≤ (v2 : Int) ∧ (v2 : Int) < 8) ∧ (0 ≤ (v1 : Int) ∧ (v1 : Int) < 8) ∧ (0 ≤ (v2 : Int) ∧ (v2 : Int) < 8) ∧ (0 ≤ (v1 : Int) ∧ (v1 : Int) < 8) ∧ (wl_X5_strike_15 Q n (v1 + 1) (v2 + 1) (am_up (am_up M3 7 v1 (M3 7 v2)) 8 v1 ((am_up M3 7 v1 (M3 7 v2)) 8 v2))))))
def wp_X5_strike (M : am_M) (Q : Int → am_M → Prop) : Prop := wp_X0_remember M (fun M1 => ∃ e15, wl_X5_strike_15 Q e15 0 0 M1)
set_option maxRecDepth 20000 in
theorem tw_X5_strike_15 {Q : Int → am_M → Prop} {QX : am_X} : ∀ (n : Nat) (v1 : Int) (v2 : Int) (M : am_M), wl_X5_strike_15 Q n v1 v2 M → am_W (am_CC 4) dt_X5_strike 4 0 none (am_QI Q) QX (0, 15, [(0, .inr (.inl (some 0))), (1, .inl (v1)), (2, .inl (v2))], [], M)
  | 0, _, _, _, h => h.elim
  | n + 1, v1, v2, M, h => by
    refine am_Wrun 4 (ps := []) (pc' := 23) (lv' := [(0, .inr (.inl (some 0))), (1, .inl (v1)), (2, .inl (v2))]) (st' := [.inl (M 1 8), .inl (v2)]) (M' := M) rfl trivial ?_
    obtain ⟨b0, b1, ht, hf⟩ := h
    refine am_Wbr (P := [am_rg v2, am_rg (M 1 8)]) (c := (M 1 8) ≤ v2) (t := 82) (f := 26) (st' := []) rfl rfl ⟨b0, b1, trivial⟩ rfl (fun q => ?_) (fun q => ?_)
    · have h := ht q
      refine am_Wrun 5 (ps := []) (pc' := 91) (lv' := [(0, .inr (.inl (some 0))), (1, .inl (v1)), (2, .inl (v2))]) (st' := [.inl (v1)]) (M' := (am_up M 1 8 v1)) rfl trivial ?_
      exact am_Wreti rfl rfl h
    · have h := hf q
      refine am_Wrun 3 (ps := []) (pc' := 31) (lv' := [(0, .inr (.inl (some 0))), (1, .inl (v1)), (2, .inl (v2))]) (st' := [.inl (v2), .inr (.inl (some 9))]) (M' := M) rfl trivial ?_
      refine am_WcallV (y := 18) (n := 2) (a := 9) (f := 34) (as := [.inl (v2)]) (st' := []) rfl rfl rfl rfl rfl rfl rfl rfl rfl rfl (Nat.zero_le _) rfl (am_CC_le (Nat.le_of_ble_eq_true rfl) (tm_X1_isTrue h)) (fun r M3 q => ?_) (fun _ _ q => q.elim)
      obtain ⟨x2, rfl, h⟩ := q
      obtain ⟨b0, ht, hf⟩ := h
      refine am_Wbr (P := [am_rg x2]) (c := ¬ x2 = 0) (t := 76) (f := 37) (st' := []) rfl rfl ⟨b0, trivial⟩ rfl (fun q => ?_) (fun q => ?_)
      · have h := ht q
        refine am_Wrun 2 (ps := []) (pc' := 15) (lv' := [(2, .inl (v2 + 1)), (0, .inr (.inl (some 0))), (1, .inl (v1))]) (st' := []) (M' := M3) rfl trivial ?_
        refine am_W_sub [1, 2, 0] rfl ?_
        exact tw_X5_strike_15 n v1 (v2 + 1) M3 h
      · have h := hf q
        obtain ⟨c0_0, c1_0, c2_0, c3_0, h⟩ := h
        refine am_Wrun 23 (ps := [0 ≤ (v2 : Int) ∧ (v2 : Int) < 8, 0 ≤ (v1 : Int) ∧ (v1 : Int) < 8, 0 ≤ (v2 : Int) ∧ (v2 : Int) < 8, 0 ≤ (v1 : Int) ∧ (v1 : Int) < 8]) (pc' := 15) (lv' := [(2, .inl (v2 + 1)), (1, .inl (v1 + 1)), (0, .inr (.inl (some 0)))]) (st' := []) (M' := (am_up (am_up M3 7 v1 (M3 7 v2)) 8 v1 ((am_up M3 7 v1 (M3 7 v2)) 8 v2))) rfl ⟨c0_0, c1_0, c2_0, c3_0, trivial⟩ ?_
        refine am_W_sub [2, 1, 0] rfl ?_
        exact tw_X5_strike_15 n (v1 + 1) (v2 + 1) (am_up (am_up M3 7 v1 (M3 7 v2)) 8 v1 ((am_up M3 7 v1 (M3 7 v2)) 8 v2)) h
set_option maxRecDepth 20000 in
theorem tm_X5_strike {M : am_M} {Q : Int → am_M → Prop} (h : wp_X5_strike M Q) : am_CC 5 17 [.inr (.inl (some 0))] M (am_QI Q) (fun _ _ => False) := by
  refine ⟨Nat.le_of_ble_eq_true rfl, ?_⟩
  show am_W (am_CC 4) dt_X5_strike 4 0 none (am_QI Q) (am_qx 17 (fun _ _ => False)) (0, 0, [(0, .inr (.inl (some 0)))], [], M)
  refine am_Wrun 4 (ps := []) (pc' := 8) (lv' := [(0, .inr (.inl (some 0)))]) (st' := [.inr (.inl (some 1)), .inr (.inl (some 14))]) (M' := M) rfl trivial ?_
  refine am_WcallV (y := 1) (n := 2) (a := 14) (f := 11) (as := [.inr (.inl (some 1))]) (st' := []) rfl rfl rfl rfl rfl rfl rfl rfl rfl rfl (Nat.zero_le _) rfl (am_CC_le (Nat.le_of_ble_eq_true rfl) (tm_X0_remember h)) (fun r M1 q => ?_) (fun _ _ q => q.elim)
  obtain ⟨rfl, h⟩ := q
  refine am_Wrun 4 (ps := []) (pc' := 15) (lv' := [(2, .inl (0)), (1, .inl (0)), (0, .inr (.inl (some 0)))]) (st' := []) (M' := M1) rfl trivial ?_
  refine am_W_sub [2, 1, 0] rfl ?_
  obtain ⟨n15, h⟩ := h
  exact tw_X5_strike_15 n15 0 0 M1 h
abbrev dt_X6_isTrueNote : am_D := (tk_X6_isTrueNote, 6, 2, some .boolean, tb_hn 156)
def wp_X6_isTrueNote (a0 : Int) (M : am_M) (Q : Int → am_M → Prop) : Prop := (0 ≤ (187 + (2 * a0) : Int) ∧ (187 + (2 * a0) : Int) < 203) ∧ (0 ≤ ((187 + (2 * a0)) + 1 : Int) ∧ ((187 + (2 * a0)) + 1 : Int) < 203) ∧ (wp_X6_isTrue (M 70 (187 + (2 * a0))) (M 70 ((187 + (2 * a0)) + 1)) M (fun x1 M2 => (x1 = 0 ∨ x1 = 1) ∧ Q x1 M2))
set_option maxRecDepth 20000 in
theorem tm_X6_isTrueNote {a0 : Int} {M : am_M} {Q : Int → am_M → Prop} (h : wp_X6_isTrueNote a0 M Q) : am_CC 7 156 [.inr (.inl (some 69)), .inl (a0)] M (am_QI Q) (fun _ _ => False) := by
  refine ⟨Nat.le_of_ble_eq_true rfl, ?_⟩
  show am_W (am_CC 6) dt_X6_isTrueNote 6 0 none (am_QI Q) (am_qx 156 (fun _ _ => False)) (0, 0, [(0, .inr (.inl (some 69))), (1, .inl (a0))], [], M)
  obtain ⟨c1_0, c3_0, h⟩ := h
  refine am_Wrun 19 (ps := [-32768 ≤ (187 : Int) ∧ (187 : Int) ≤ 32767, 0 ≤ (187 + (2 * a0) : Int) ∧ (187 + (2 * a0) : Int) < 203, -32768 ≤ (187 : Int) ∧ (187 : Int) ≤ 32767, 0 ≤ ((187 + (2 * a0)) + 1 : Int) ∧ ((187 + (2 * a0)) + 1 : Int) < 203]) (pc' := 27) (lv' := [(0, .inr (.inl (some 69))), (1, .inl (a0))]) (st' := [.inl (M 70 ((187 + (2 * a0)) + 1)), .inl (M 70 (187 + (2 * a0))), .inr (.inl (some 69))]) (M' := M) rfl ⟨⟨by decide, by decide⟩, c1_0, ⟨by decide, by decide⟩, c3_0, trivial⟩ ?_
  refine am_WcallV (y := 139) (n := 3) (a := 69) (f := 30) (as := [.inl (M 70 (187 + (2 * a0))), .inl (M 70 ((187 + (2 * a0)) + 1))]) (st' := []) rfl rfl rfl rfl rfl rfl rfl rfl rfl rfl (Nat.zero_le _) rfl (am_CC_le (Nat.le_of_ble_eq_true rfl) (tm_X6_isTrue h)) (fun r M2 q => ?_) (fun _ _ q => q.elim)
  obtain ⟨x1, rfl, h⟩ := q
  exact am_Wretz rfl rfl h.1 h.2
abbrev dt_X6_strike : am_D := (tk_X6_strike, 6, 3, some .int, tb_hn 155)
def wl_X6_strike_13 (Q : Int → am_M → Prop) : Nat → Int → Int → am_M → Prop
  | 0, _, _, _ => False
  | n + 1, v1, v2, M => (am_rg v2) ∧ (am_rg (M 70 1)) ∧ ((M 70 1) ≤ v2 → Q v1 (am_up M 70 1 v1)) ∧ (¬ (M 70 1) ≤ v2 → wp_X6_isTrueNote v2 M (fun x2 M3 => (am_rg x2) ∧ (¬ x2 = 0 → wl_X6_strike_13 Q n v1 (v2 + 1) M3) ∧ (¬ (¬ x2 = 0) → (0 ≤ (187 + (2 * v2) : Int) ∧ (187 + (2 * v2) : Int) < 203) ∧ (0 ≤ (187 + (2 * v1) : Int) ∧ (187 + (2 * v1) : Int) < 203) ∧ (0 ≤ ((187 + (2 * v2)) + 1 : Int) ∧ ((187 + (2 * v2)) + 1 : Int) < 203) ∧ (0 ≤ ((187 + (2 * v1)) + 1 : Int) ∧ ((187 + (2 * v1)) + 1 : Int) < 203) ∧ (wl_X6_strike_13 Q n (v1 + 1) (v2 + 1) (am_up (am_up M3 70 (187 + (2 * v1)) (M3 70 (187 + (2 * v2)))) 70 ((187 + (2 * v1)) + 1) ((am_up M3 70 (187 + (2 * v1)) (M3 70 (187 + (2 * v2)))) 70 ((187 + (2 * v2)) + 1)))))))
def wp_X6_strike (M : am_M) (Q : Int → am_M → Prop) : Prop := wp_X6_save (am_up M 69 5 0) (fun M1 => ∃ e13, wl_X6_strike_13 Q e13 0 0 M1)
set_option maxRecDepth 20000 in
theorem tw_X6_strike_13 {Q : Int → am_M → Prop} {QX : am_X} : ∀ (n : Nat) (v1 : Int) (v2 : Int) (M : am_M), wl_X6_strike_13 Q n v1 v2 M → am_W (am_CC 7) dt_X6_strike 7 0 none (am_QI Q) QX (0, 13, [(0, .inr (.inl (some 69))), (1, .inl (v1)), (2, .inl (v2))], [], M)
  | 0, _, _, _, h => h.elim
  | n + 1, v1, v2, M, h => by
    refine am_Wrun 5 (ps := [0 ≤ (1 : Int) ∧ (1 : Int) < 203]) (pc' := 20) (lv' := [(0, .inr (.inl (some 69))), (1, .inl (v1)), (2, .inl (v2))]) (st' := [.inl (M 70 1), .inl (v2)]) (M' := M) rfl ⟨⟨by decide, by decide⟩, trivial⟩ ?_
    obtain ⟨b0, b1, ht, hf⟩ := h
    refine am_Wbr (P := [am_rg v2, am_rg (M 70 1)]) (c := (M 70 1) ≤ v2) (t := 92) (f := 23) (st' := []) rfl rfl ⟨b0, b1, trivial⟩ rfl (fun q => ?_) (fun q => ?_)
    · have h := ht q
      refine am_Wrun 6 (ps := [0 ≤ (1 : Int) ∧ (1 : Int) < 203]) (pc' := 100) (lv' := [(0, .inr (.inl (some 69))), (1, .inl (v1)), (2, .inl (v2))]) (st' := [.inl (v1)]) (M' := (am_up M 70 1 v1)) rfl ⟨⟨by decide, by decide⟩, trivial⟩ ?_
      exact am_Wreti rfl rfl h
    · have h := hf q
      refine am_Wrun 2 (ps := []) (pc' := 25) (lv' := [(0, .inr (.inl (some 69))), (1, .inl (v1)), (2, .inl (v2))]) (st' := [.inl (v2), .inr (.inl (some 69))]) (M' := M) rfl trivial ?_
      refine am_WcallV (y := 156) (n := 2) (a := 69) (f := 28) (as := [.inl (v2)]) (st' := []) rfl rfl rfl rfl rfl rfl rfl rfl rfl rfl (Nat.zero_le _) rfl (am_CC_le (Nat.le_of_ble_eq_true rfl) (tm_X6_isTrueNote h)) (fun r M3 q => ?_) (fun _ _ q => q.elim)
      obtain ⟨x2, rfl, h⟩ := q
      obtain ⟨b0, ht, hf⟩ := h
      refine am_Wbr (P := [am_rg x2]) (c := ¬ x2 = 0) (t := 86) (f := 31) (st' := []) rfl rfl ⟨b0, trivial⟩ rfl (fun q => ?_) (fun q => ?_)
      · have h := ht q
        refine am_Wrun 2 (ps := []) (pc' := 13) (lv' := [(2, .inl (v2 + 1)), (0, .inr (.inl (some 69))), (1, .inl (v1))]) (st' := []) (M' := M3) rfl trivial ?_
        refine am_W_sub [1, 2, 0] rfl ?_
        exact tw_X6_strike_13 n v1 (v2 + 1) M3 h
      · have h := hf q
        obtain ⟨c2_0, c3_0, c6_0, c7_0, h⟩ := h
        refine am_Wrun 39 (ps := [-32768 ≤ (187 : Int) ∧ (187 : Int) ≤ 32767, -32768 ≤ (187 : Int) ∧ (187 : Int) ≤ 32767, 0 ≤ (187 + (2 * v2) : Int) ∧ (187 + (2 * v2) : Int) < 203, 0 ≤ (187 + (2 * v1) : Int) ∧ (187 + (2 * v1) : Int) < 203, -32768 ≤ (187 : Int) ∧ (187 : Int) ≤ 32767, -32768 ≤ (187 : Int) ∧ (187 : Int) ≤ 32767, 0 ≤ ((187 + (2 * v2)) + 1 : Int) ∧ ((187 + (2 * v2)) + 1 : Int) < 203, 0 ≤ ((187 + (2 * v1)) + 1 : Int) ∧ ((187 + (2 * v1)) + 1 : Int) < 203]) (pc' := 13) (lv' := [(2, .inl (v2 + 1)), (1, .inl (v1 + 1)), (0, .inr (.inl (some 69)))]) (st' := []) (M' := (am_up (am_up M3 70 (187 + (2 * v1)) (M3 70 (187 + (2 * v2)))) 70 ((187 + (2 * v1)) + 1) ((am_up M3 70 (187 + (2 * v1)) (M3 70 (187 + (2 * v2)))) 70 ((187 + (2 * v2)) + 1)))) rfl ⟨⟨by decide, by decide⟩, ⟨by decide, by decide⟩, c2_0, c3_0, ⟨by decide, by decide⟩, ⟨by decide, by decide⟩, c6_0, c7_0, trivial⟩ ?_
        refine am_W_sub [2, 1, 0] rfl ?_
        exact tw_X6_strike_13 n (v1 + 1) (v2 + 1) (am_up (am_up M3 70 (187 + (2 * v1)) (M3 70 (187 + (2 * v2)))) 70 ((187 + (2 * v1)) + 1) ((am_up M3 70 (187 + (2 * v1)) (M3 70 (187 + (2 * v2)))) 70 ((187 + (2 * v2)) + 1))) h
set_option maxRecDepth 20000 in
theorem tm_X6_strike {M : am_M} {Q : Int → am_M → Prop} (h : wp_X6_strike M Q) : am_CC 8 155 [.inr (.inl (some 69))] M (am_QI Q) (fun _ _ => False) := by
  refine ⟨Nat.le_of_ble_eq_true rfl, ?_⟩
  show am_W (am_CC 7) dt_X6_strike 7 0 none (am_QI Q) (am_qx 155 (fun _ _ => False)) (0, 0, [(0, .inr (.inl (some 69)))], [], M)
  refine am_Wrun 4 (ps := []) (pc' := 6) (lv' := [(0, .inr (.inl (some 69)))]) (st' := [.inr (.inl (some 69))]) (M' := (am_up M 69 5 0)) rfl trivial ?_
  refine am_WcallV (y := 116) (n := 1) (a := 69) (f := 9) (as := []) (st' := []) rfl rfl rfl rfl rfl rfl rfl rfl rfl rfl (Nat.zero_le _) rfl (am_CC_le (Nat.le_of_ble_eq_true rfl) (tm_X6_save h)) (fun r M1 q => ?_) (fun _ _ q => q.elim)
  obtain ⟨rfl, h⟩ := q
  refine am_Wrun 4 (ps := []) (pc' := 13) (lv' := [(2, .inl (0)), (1, .inl (0)), (0, .inr (.inl (some 69)))]) (st' := []) (M' := M1) rfl trivial ?_
  refine am_W_sub [2, 1, 0] rfl ?_
  obtain ⟨n13, h⟩ := h
  exact tw_X6_strike_13 n13 0 0 M1 h
abbrev dt_X3_push : am_D := (tk_X3_push, 3, 2, none, tb_hn 96)
def wp_X3_push (a0 : Int) (M : am_M) (Q : am_M → Prop) : Prop := (am_rg (M 64 1)) ∧ ((M 64 1) < 0 → Q M) ∧ (¬ (M 64 1) < 0 → (am_rg (M 64 1)) ∧ (60 ≤ (M 64 1) → Q M) ∧ (¬ 60 ≤ (M 64 1) → (0 ≤ (M 64 1 : Int) ∧ (M 64 1 : Int) < 60) ∧ (Q (am_up (am_up M 65 (M 64 1) a0) 64 1 (((am_up M 65 (M 64 1) a0) 64 1) + 1)))))
set_option maxRecDepth 20000 in
theorem tm_X3_push {a0 : Int} {M : am_M} {Q : am_M → Prop} (h : wp_X3_push a0 M Q) : am_CC 1 96 [.inr (.inl (some 64)), .inl (a0)] M (am_QV Q) (fun _ _ => False) := by
  refine ⟨Nat.le_of_ble_eq_true rfl, ?_⟩
  show am_W (am_CC 0) dt_X3_push 0 0 none (am_QV Q) (am_qx 96 (fun _ _ => False)) (0, 0, [(0, .inr (.inl (some 64))), (1, .inl (a0))], [], M)
  refine am_Wrun 2 (ps := []) (pc' := 4) (lv' := [(0, .inr (.inl (some 64))), (1, .inl (a0))]) (st' := [.inl (M 64 1)]) (M' := M) rfl trivial ?_
  obtain ⟨b0, ht, hf⟩ := h
  refine am_Wbr (P := [am_rg (M 64 1)]) (c := (M 64 1) < 0) (t := 36) (f := 7) (st' := []) rfl rfl ⟨b0, trivial⟩ rfl (fun q => ?_) (fun q => ?_)
  · have h := ht q
    exact am_Wretv rfl rfl h
  · have h := hf q
    refine am_Wrun 3 (ps := [-128 ≤ (60 : Int) ∧ (60 : Int) ≤ 127]) (pc' := 13) (lv' := [(0, .inr (.inl (some 64))), (1, .inl (a0))]) (st' := [.inl (60), .inl (M 64 1)]) (M' := M) rfl ⟨⟨by decide, by decide⟩, trivial⟩ ?_
    obtain ⟨b0, ht, hf⟩ := h
    refine am_Wbr (P := [am_rg (M 64 1), am_rg 60]) (c := 60 ≤ (M 64 1)) (t := 36) (f := 16) (st' := []) rfl rfl ⟨b0, (am_rgd rfl), trivial⟩ rfl (fun q => ?_) (fun q => ?_)
    · have h := ht q
      exact am_Wretv rfl rfl h
    · have h := hf q
      obtain ⟨c0_0, h⟩ := h
      refine am_Wrun 12 (ps := [0 ≤ (M 64 1 : Int) ∧ (M 64 1 : Int) < 60]) (pc' := 36) (lv' := [(0, .inr (.inl (some 64))), (1, .inl (a0))]) (st' := []) (M' := (am_up (am_up M 65 (M 64 1) a0) 64 1 (((am_up M 65 (M 64 1) a0) 64 1) + 1))) rfl ⟨c0_0, trivial⟩ ?_
      exact am_Wretv rfl rfl h
abbrev dt_X5_append : am_D := (tk_X5_append, 5, 2, some .int, tb_hn 95)
def wj_X5_append_12 (Q : Int → am_M → Prop) (X : am_X) (M : am_M) : Prop := X 0 M
def wp_X5_append (a0 : Int) (M : am_M) (Q : Int → am_M → Prop) (X : am_X) : Prop := (am_rg a0) ∧ (a0 < 33 → wj_X5_append_12 Q X  M) ∧ (¬ a0 < 33 → (am_rg a0) ∧ (a0 ≤ 126 → (am_rg (M 64 1)) ∧ ((M 64 1) < 60 → wp_X3_push a0 M (fun M1 => Q (M1 64 1) M1)) ∧ (¬ (M 64 1) < 60 → X 1 M)) ∧ (¬ a0 ≤ 126 → wj_X5_append_12 Q X  M))
set_option maxRecDepth 20000 in
theorem tj_X5_append_12 {Q : Int → am_M → Prop} {X : am_X} {QX : am_X} (hX : ∀ E M, X E M → QX E M) (M : am_M) (h : wj_X5_append_12 Q X M) : am_W (am_CC 5) dt_X5_append 5 0 none (am_QI Q) QX (0, 12, [], [], M) := by
  exact am_Wthr (is := 170) (ic := 63) (E := 0) rfl (Nat.le_of_ble_eq_true rfl) rfl rfl rfl rfl (Or.inl ⟨rfl, rfl, rfl⟩) (hX _ _ h)
set_option maxRecDepth 20000 in
theorem tm_X5_append {a0 : Int} {M : am_M} {Q : Int → am_M → Prop} {X : am_X} (h : wp_X5_append a0 M Q X) : am_CC 6 95 [.inr (.inl (some 0)), .inl (a0)] M (am_QI Q) X := by
  refine ⟨Nat.le_of_ble_eq_true rfl, ?_⟩
  show am_W (am_CC 5) dt_X5_append 5 0 none (am_QI Q) (am_qx 95 X) (0, 0, [(0, .inr (.inl (some 0))), (1, .inl (a0))], [], M)
  have hX : ∀ E M, X E M → am_qx 95 X E M := fun E M q => ⟨⟨rfl, by decide⟩, q⟩
  refine am_Wrun 2 (ps := [-128 ≤ (33 : Int) ∧ (33 : Int) ≤ 127]) (pc' := 3) (lv' := [(0, .inr (.inl (some 0))), (1, .inl (a0))]) (st' := [.inl (33), .inl (a0)]) (M' := M) rfl ⟨⟨by decide, by decide⟩, trivial⟩ ?_
  obtain ⟨b0, ht, hf⟩ := h
  refine am_Wbr (P := [am_rg a0, am_rg 33]) (c := a0 < 33) (t := 12) (f := 6) (st' := []) rfl rfl ⟨b0, (am_rgd rfl), trivial⟩ rfl (fun q => ?_) (fun q => ?_)
  · have h := ht q
    refine am_W_sub [] rfl ?_
    exact tj_X5_append_12 hX  M h
  · have h := hf q
    refine am_Wrun 2 (ps := [-128 ≤ (126 : Int) ∧ (126 : Int) ≤ 127]) (pc' := 9) (lv' := [(0, .inr (.inl (some 0))), (1, .inl (a0))]) (st' := [.inl (126), .inl (a0)]) (M' := M) rfl ⟨⟨by decide, by decide⟩, trivial⟩ ?_
    obtain ⟨b0, ht, hf⟩ := h
    refine am_Wbr (P := [am_rg a0, am_rg 126]) (c := a0 ≤ 126) (t := 22) (f := 12) (st' := []) rfl rfl ⟨b0, (am_rgd rfl), trivial⟩ rfl (fun q => ?_) (fun q => ?_)
    · have h := ht q
      refine am_Wrun 4 (ps := [-128 ≤ (60 : Int) ∧ (60 : Int) ≤ 127]) (pc' := 31) (lv' := [(0, .inr (.inl (some 0))), (1, .inl (a0))]) (st' := [.inl (60), .inl (M 64 1)]) (M' := M) rfl ⟨⟨by decide, by decide⟩, trivial⟩ ?_
      obtain ⟨b0, ht, hf⟩ := h
      refine am_Wbr (P := [am_rg (M 64 1), am_rg 60]) (c := (M 64 1) < 60) (t := 44) (f := 34) (st' := []) rfl rfl ⟨b0, (am_rgd rfl), trivial⟩ rfl (fun q => ?_) (fun q => ?_)
      · have h := ht q
        refine am_Wrun 3 (ps := []) (pc' := 49) (lv' := [(0, .inr (.inl (some 0))), (1, .inl (a0))]) (st' := [.inl (a0), .inr (.inl (some 64))]) (M' := M) rfl trivial ?_
        refine am_WcallV (y := 96) (n := 2) (a := 64) (f := 52) (as := [.inl (a0)]) (st' := []) rfl rfl rfl rfl rfl rfl rfl rfl rfl rfl (Nat.zero_le _) rfl (am_CC_le (Nat.le_of_ble_eq_true rfl) (tm_X3_push h)) (fun r M1 q => ?_) (fun _ _ q => q.elim)
        obtain ⟨rfl, h⟩ := q
        refine am_Wrun 3 (ps := []) (pc' := 59) (lv' := [(0, .inr (.inl (some 0))), (1, .inl (a0))]) (st' := [.inl (M1 64 1)]) (M' := M1) rfl trivial ?_
        exact am_Wreti rfl rfl h
      · have h := hf q
        exact am_Wthr (is := 175) (ic := 77) (E := 1) rfl (Nat.le_of_ble_eq_true rfl) rfl rfl rfl rfl (Or.inl ⟨rfl, rfl, rfl⟩) (hX _ _ h)
    · have h := hf q
      refine am_W_sub [] rfl ?_
      exact tj_X5_append_12 hX  M h
abbrev dt_L_append : am_D := (tk_L_append, 9, 4, some .int, tb_hn 207)
def wp_L_append (a1 : Int) (M : am_M) (Q : Int → am_M → Prop) : Prop := wp_X5_append a1 M (fun x1 M2 => (am_rg x1) ∧ (Q 0 (am_up M2 80 0 x1))) (fun E M3 => (E = 0 ∧ Q 1 M3) ∨ (E = 1 ∧ Q 2 M3))
set_option maxRecDepth 20000 in
theorem tm_L_append {a1 : Int} {M : am_M} {Q : Int → am_M → Prop} (h : wp_L_append a1 M Q) : am_CC 7 207 [.inr (.inl (some 0)), .inl (a1), .inr (.inl (some 80))] M (am_QI Q) (fun _ _ => False) := by
  refine ⟨Nat.le_of_ble_eq_true rfl, ?_⟩
  show am_W (am_CC 6) dt_L_append 6 1 none (am_QI Q) (am_qx 207 (fun _ _ => False)) (0, 0, [(0, .inr (.inl (some 0))), (1, .inl (a1)), (2, .inr (.inl (some 80)))], [], M)
  refine am_Wrun 4 (ps := []) (pc' := 4) (lv' := [(0, .inr (.inl (some 0))), (1, .inl (a1)), (2, .inr (.inl (some 80)))]) (st' := [.inl (a1), .inr (.inl (some 0)), .inl (0), .inr (.inl (some 80))]) (M' := M) rfl trivial ?_
  refine am_WcallV (y := 95) (n := 2) (a := 0) (f := 7) (as := [.inl (a1)]) (st' := [.inl (0), .inr (.inl (some 80))]) rfl rfl rfl rfl rfl rfl rfl rfl rfl rfl (Nat.zero_le _) rfl (am_CC_le (Nat.le_of_ble_eq_true rfl) (tm_X5_append h)) (fun r M2 q => ?_) (fun E M3 q => ?_)
  · obtain ⟨x1, rfl, h⟩ := q
    obtain ⟨c0_0, h⟩ := h
    refine am_Wrun 4 (ps := [am_rg x1, 0 ≤ (0 : Int) ∧ (0 : Int) < 1]) (pc' := 19) (lv' := [(0, .inr (.inl (some 0))), (1, .inl (a1)), (2, .inr (.inl (some 80)))]) (st' := [.inl (0)]) (M' := (am_up M2 80 0 x1)) rfl ⟨c0_0, ⟨by decide, by decide⟩, trivial⟩ ?_
    exact am_Wreti rfl rfl h
  · rcases q with ⟨rfl, h⟩ | ⟨rfl, h⟩
    · show 0 + 1 ≤ 1 ∧ am_W (am_CC 6) dt_L_append 6 1 none (am_QI Q) _ (0 + 1, 13, [(0, .inr (.inl (some 0))), (1, .inl (a1)), (2, .inr (.inl (some 80)))], [], M3)
      refine ⟨Nat.le_refl _, ?_⟩
      refine am_Wrun 1 (ps := []) (pc' := 14) (lv' := [(0, .inr (.inl (some 0))), (1, .inl (a1)), (2, .inr (.inl (some 80)))]) (st' := [.inl (1)]) (M' := M3) rfl trivial ?_
      exact am_Wreti rfl rfl h
    · show 0 + 1 ≤ 1 ∧ am_W (am_CC 6) dt_L_append 6 1 none (am_QI Q) _ (0 + 1, 16, [(0, .inr (.inl (some 0))), (1, .inl (a1)), (2, .inr (.inl (some 80)))], [], M3)
      refine ⟨Nat.le_refl _, ?_⟩
      refine am_Wrun 1 (ps := []) (pc' := 17) (lv' := [(0, .inr (.inl (some 0))), (1, .inl (a1)), (2, .inr (.inl (some 80)))]) (st' := [.inl (2)]) (M' := M3) rfl trivial ?_
      exact am_Wreti rfl rfl h
abbrev dt_X6_append : am_D := (tk_X6_append, 6, 2, some .int, tb_hn 157)
def wp_X6_append (a0 : Int) (M : am_M) (Q : Int → am_M → Prop) : Prop := wp_X6_in a0 33 126 (am_up M 69 5 0) (fun x1 M2 => (am_rg x1) ∧ (¬ x1 = 0 → (am_rg (M2 69 4)) ∧ (¬ (M2 69 4) = 60 → (0 ≤ (M2 69 4 : Int) ∧ (M2 69 4 : Int) < 60) ∧ (Q ((am_up (am_up M2 72 (M2 69 4) a0) 69 4 (((am_up M2 72 (M2 69 4) a0) 69 4) + 1)) 69 4) (am_up (am_up M2 72 (M2 69 4) a0) 69 4 (((am_up M2 72 (M2 69 4) a0) 69 4) + 1)))) ∧ (¬ (¬ (M2 69 4) = 60) → wp_X6_fails 2 M2 (fun x3 M4 => Q x3 M4))) ∧ (¬ (¬ x1 = 0) → wp_X6_fails 1 M2 (fun x5 M6 => Q x5 M6)))
set_option maxRecDepth 20000 in
theorem tm_X6_append {a0 : Int} {M : am_M} {Q : Int → am_M → Prop} (h : wp_X6_append a0 M Q) : am_CC 2 157 [.inr (.inl (some 69)), .inl (a0)] M (am_QI Q) (fun _ _ => False) := by
  refine ⟨Nat.le_of_ble_eq_true rfl, ?_⟩
  show am_W (am_CC 1) dt_X6_append 1 0 none (am_QI Q) (am_qx 157 (fun _ _ => False)) (0, 0, [(0, .inr (.inl (some 69))), (1, .inl (a0))], [], M)
  refine am_Wrun 6 (ps := [-128 ≤ (33 : Int) ∧ (33 : Int) ≤ 127, -128 ≤ (126 : Int) ∧ (126 : Int) ≤ 127]) (pc' := 10) (lv' := [(0, .inr (.inl (some 69))), (1, .inl (a0))]) (st' := [.inl (126), .inl (33), .inl (a0)]) (M' := (am_up M 69 5 0)) rfl ⟨⟨by decide, by decide⟩, ⟨by decide, by decide⟩, trivial⟩ ?_
  refine am_WcallS (y := 112) (n := 3) (f := 13) (co := 0) (as := [.inl (a0), .inl (33), .inl (126)]) (st' := []) rfl rfl rfl rfl rfl rfl rfl rfl rfl (Nat.zero_le _) rfl (am_CC_le (Nat.le_of_ble_eq_true rfl) (tm_X6_in h)) (fun r M2 q => ?_) (fun _ _ q => q.elim)
  obtain ⟨x1, rfl, h⟩ := q
  obtain ⟨b0, ht, hf⟩ := h
  refine am_Wbr (P := [am_rg x1]) (c := ¬ x1 = 0) (t := 22) (f := 16) (st' := []) rfl rfl ⟨b0, trivial⟩ rfl (fun q => ?_) (fun q => ?_)
  · have h := ht q
    refine am_Wrun 3 (ps := [-128 ≤ (60 : Int) ∧ (60 : Int) ≤ 127]) (pc' := 28) (lv' := [(0, .inr (.inl (some 69))), (1, .inl (a0))]) (st' := [.inl (60), .inl (M2 69 4)]) (M' := M2) rfl ⟨⟨by decide, by decide⟩, trivial⟩ ?_
    obtain ⟨b0, ht, hf⟩ := h
    refine am_Wbr (P := [am_rg (M2 69 4), am_rg 60]) (c := ¬ (M2 69 4) = 60) (t := 37) (f := 31) (st' := []) rfl rfl ⟨b0, (am_rgd rfl), trivial⟩ rfl (fun q => ?_) (fun q => ?_)
    · have h := ht q
      obtain ⟨c0_0, h⟩ := h
      refine am_Wrun 14 (ps := [0 ≤ (M2 69 4 : Int) ∧ (M2 69 4 : Int) < 60]) (pc' := 61) (lv' := [(0, .inr (.inl (some 69))), (1, .inl (a0))]) (st' := [.inl ((am_up (am_up M2 72 (M2 69 4) a0) 69 4 (((am_up M2 72 (M2 69 4) a0) 69 4) + 1)) 69 4)]) (M' := (am_up (am_up M2 72 (M2 69 4) a0) 69 4 (((am_up M2 72 (M2 69 4) a0) 69 4) + 1))) rfl ⟨c0_0, trivial⟩ ?_
      exact am_Wreti rfl rfl h
    · have h := hf q
      refine am_Wrun 2 (ps := []) (pc' := 33) (lv' := [(0, .inr (.inl (some 69))), (1, .inl (a0))]) (st' := [.inl (2), .inr (.inl (some 69))]) (M' := M2) rfl trivial ?_
      refine am_WcallV (y := 113) (n := 2) (a := 69) (f := 36) (as := [.inl (2)]) (st' := []) rfl rfl rfl rfl rfl rfl rfl rfl rfl rfl (Nat.zero_le _) rfl (am_CC_le (Nat.le_of_ble_eq_true rfl) (tm_X6_fails h)) (fun r M4 q => ?_) (fun _ _ q => q.elim)
      obtain ⟨x3, rfl, h⟩ := q
      exact am_Wreti rfl rfl h
  · have h := hf q
    refine am_Wrun 2 (ps := []) (pc' := 18) (lv' := [(0, .inr (.inl (some 69))), (1, .inl (a0))]) (st' := [.inl (1), .inr (.inl (some 69))]) (M' := M2) rfl trivial ?_
    refine am_WcallV (y := 113) (n := 2) (a := 69) (f := 21) (as := [.inl (1)]) (st' := []) rfl rfl rfl rfl rfl rfl rfl rfl rfl rfl (Nat.zero_le _) rfl (am_CC_le (Nat.le_of_ble_eq_true rfl) (tm_X6_fails h)) (fun r M6 q => ?_) (fun _ _ q => q.elim)
    obtain ⟨x5, rfl, h⟩ := q
    exact am_Wreti rfl rfl h
abbrev dt_X5_clearBuffer : am_D := (tk_X5_clearBuffer, 5, 2, some .int, tb_hn 23)
def wp_X5_clearBuffer (M : am_M) (Q : Int → am_M → Prop) : Prop := Q (M 64 1) (am_up M 64 1 0)
set_option maxRecDepth 20000 in
theorem tm_X5_clearBuffer {M : am_M} {Q : Int → am_M → Prop} (h : wp_X5_clearBuffer M Q) : am_CC 1 23 [.inr (.inl (some 0))] M (am_QI Q) (fun _ _ => False) := by
  refine ⟨Nat.le_of_ble_eq_true rfl, ?_⟩
  show am_W (am_CC 0) dt_X5_clearBuffer 0 0 none (am_QI Q) (am_qx 23 (fun _ _ => False)) (0, 0, [(0, .inr (.inl (some 0)))], [], M)
  refine am_Wrun 9 (ps := []) (pc' := 17) (lv' := [(1, .inl (M 64 1)), (0, .inr (.inl (some 0)))]) (st' := [.inl (M 64 1)]) (M' := (am_up M 64 1 0)) rfl trivial ?_
  exact am_Wreti rfl rfl h
abbrev dt_X6_clearBuffer : am_D := (tk_X6_clearBuffer, 6, 2, some .int, tb_hn 158)
def wp_X6_clearBuffer (M : am_M) (Q : Int → am_M → Prop) : Prop := Q ((am_up M 69 5 0) 69 4) (am_up (am_up M 69 5 0) 69 4 0)
set_option maxRecDepth 20000 in
theorem tm_X6_clearBuffer {M : am_M} {Q : Int → am_M → Prop} (h : wp_X6_clearBuffer M Q) : am_CC 1 158 [.inr (.inl (some 69))] M (am_QI Q) (fun _ _ => False) := by
  refine ⟨Nat.le_of_ble_eq_true rfl, ?_⟩
  show am_W (am_CC 0) dt_X6_clearBuffer 0 0 none (am_QI Q) (am_qx 158 (fun _ _ => False)) (0, 0, [(0, .inr (.inl (some 69)))], [], M)
  refine am_Wrun 10 (ps := []) (pc' := 16) (lv' := [(1, .inl ((am_up M 69 5 0) 69 4)), (0, .inr (.inl (some 69)))]) (st' := [.inl ((am_up M 69 5 0) 69 4)]) (M' := (am_up (am_up M 69 5 0) 69 4 0)) rfl trivial ?_
  exact am_Wreti rfl rfl h
abbrev dt_X3_isDigit : am_D := (tk_X3_isDigit, 3, 1, some .boolean, tb_hn 28)
def wp_X3_isDigit (a0 : Int) (M : am_M) (Q : Int → am_M → Prop) : Prop := (am_rg a0) ∧ (a0 < 48 → Q 0 M) ∧ (¬ a0 < 48 → (am_rg a0) ∧ (57 < a0 → Q 0 M) ∧ (¬ 57 < a0 → Q 1 M))
set_option maxRecDepth 20000 in
theorem tm_X3_isDigit {a0 : Int} {M : am_M} {Q : Int → am_M → Prop} (h : wp_X3_isDigit a0 M Q) : am_CC 1 28 [.inl (a0)] M (am_QI Q) (fun _ _ => False) := by
  refine ⟨Nat.le_of_ble_eq_true rfl, ?_⟩
  show am_W (am_CC 0) dt_X3_isDigit 0 0 none (am_QI Q) (am_qx 28 (fun _ _ => False)) (0, 0, [(0, .inl (a0))], [], M)
  refine am_Wrun 2 (ps := [-128 ≤ (48 : Int) ∧ (48 : Int) ≤ 127]) (pc' := 3) (lv' := [(0, .inl (a0))]) (st' := [.inl (48), .inl (a0)]) (M' := M) rfl ⟨⟨by decide, by decide⟩, trivial⟩ ?_
  obtain ⟨b0, ht, hf⟩ := h
  refine am_Wbr (P := [am_rg a0, am_rg 48]) (c := a0 < 48) (t := 16) (f := 6) (st' := []) rfl rfl ⟨b0, (am_rgd rfl), trivial⟩ rfl (fun q => ?_) (fun q => ?_)
  · have h := ht q
    refine am_Wrun 1 (ps := []) (pc' := 17) (lv' := [(0, .inl (a0))]) (st' := [.inl (0)]) (M' := M) rfl trivial ?_
    exact am_Wretz rfl rfl (Or.inl rfl) h
  · have h := hf q
    refine am_Wrun 2 (ps := [-128 ≤ (57 : Int) ∧ (57 : Int) ≤ 127]) (pc' := 9) (lv' := [(0, .inl (a0))]) (st' := [.inl (57), .inl (a0)]) (M' := M) rfl ⟨⟨by decide, by decide⟩, trivial⟩ ?_
    obtain ⟨b0, ht, hf⟩ := h
    refine am_Wbr (P := [am_rg a0, am_rg 57]) (c := 57 < a0) (t := 16) (f := 12) (st' := []) rfl rfl ⟨b0, (am_rgd rfl), trivial⟩ rfl (fun q => ?_) (fun q => ?_)
    · have h := ht q
      refine am_Wrun 1 (ps := []) (pc' := 17) (lv' := [(0, .inl (a0))]) (st' := [.inl (0)]) (M' := M) rfl trivial ?_
      exact am_Wretz rfl rfl (Or.inl rfl) h
    · have h := hf q
      refine am_Wrun 2 (ps := []) (pc' := 17) (lv' := [(0, .inl (a0))]) (st' := [.inl (1)]) (M' := M) rfl trivial ?_
      exact am_Wretz rfl rfl (Or.inr rfl) h
abbrev dt_X3_placeAfterFirstDigit : am_D := (tk_X3_placeAfterFirstDigit, 3, 3, some .int, tb_hn 27)
def wp_X3_placeAfterFirstDigit (a0 : Int) (a1 : Int) (a2 : Int) (M : am_M) (Q : Int → am_M → Prop) : Prop := (am_rg a0) ∧ (¬ a0 = 48 → wp_X3_isDigit a0 M (fun x1 M2 => (am_rg x1) ∧ (x1 = 0 → Q (-1) M2) ∧ (¬ x1 = 0 → Q a2 M2))) ∧ (¬ (¬ a0 = 48) → Q a1 M)
set_option maxRecDepth 20000 in
theorem tm_X3_placeAfterFirstDigit {a0 a1 a2 : Int} {M : am_M} {Q : Int → am_M → Prop} (h : wp_X3_placeAfterFirstDigit a0 a1 a2 M Q) : am_CC 2 27 [.inl (a0), .inl (a1), .inl (a2)] M (am_QI Q) (fun _ _ => False) := by
  refine ⟨Nat.le_of_ble_eq_true rfl, ?_⟩
  show am_W (am_CC 1) dt_X3_placeAfterFirstDigit 1 0 none (am_QI Q) (am_qx 27 (fun _ _ => False)) (0, 0, [(0, .inl (a0)), (1, .inl (a1)), (2, .inl (a2))], [], M)
  refine am_Wrun 2 (ps := [-128 ≤ (48 : Int) ∧ (48 : Int) ≤ 127]) (pc' := 3) (lv' := [(0, .inl (a0)), (1, .inl (a1)), (2, .inl (a2))]) (st' := [.inl (48), .inl (a0)]) (M' := M) rfl ⟨⟨by decide, by decide⟩, trivial⟩ ?_
  obtain ⟨b0, ht, hf⟩ := h
  refine am_Wbr (P := [am_rg a0, am_rg 48]) (c := ¬ a0 = 48) (t := 8) (f := 6) (st' := []) rfl rfl ⟨b0, (am_rgd rfl), trivial⟩ rfl (fun q => ?_) (fun q => ?_)
  · have h := ht q
    refine am_Wrun 1 (ps := []) (pc' := 9) (lv' := [(0, .inl (a0)), (1, .inl (a1)), (2, .inl (a2))]) (st' := [.inl (a0)]) (M' := M) rfl trivial ?_
    refine am_WcallS (y := 28) (n := 1) (f := 12) (co := 0) (as := [.inl (a0)]) (st' := []) rfl rfl rfl rfl rfl rfl rfl rfl rfl (Nat.zero_le _) rfl (am_CC_le (Nat.le_of_ble_eq_true rfl) (tm_X3_isDigit h)) (fun r M2 q => ?_) (fun _ _ q => q.elim)
    obtain ⟨x1, rfl, h⟩ := q
    obtain ⟨b0, ht, hf⟩ := h
    refine am_Wbr (P := [am_rg x1]) (c := x1 = 0) (t := 19) (f := 15) (st' := []) rfl rfl ⟨b0, trivial⟩ rfl (fun q => ?_) (fun q => ?_)
    · have h := ht q
      refine am_Wrun 1 (ps := []) (pc' := 20) (lv' := [(0, .inl (a0)), (1, .inl (a1)), (2, .inl (a2))]) (st' := [.inl ((-1))]) (M' := M2) rfl trivial ?_
      exact am_Wreti rfl rfl h
    · have h := hf q
      refine am_Wrun 2 (ps := []) (pc' := 20) (lv' := [(0, .inl (a0)), (1, .inl (a1)), (2, .inl (a2))]) (st' := [.inl (a2)]) (M' := M2) rfl trivial ?_
      exact am_Wreti rfl rfl h
  · have h := hf q
    refine am_Wrun 1 (ps := []) (pc' := 7) (lv' := [(0, .inl (a0)), (1, .inl (a1)), (2, .inl (a2))]) (st' := [.inl (a1)]) (M' := M) rfl trivial ?_
    exact am_Wreti rfl rfl h
abbrev dt_X3_placeAfter : am_D := (tk_X3_placeAfter, 3, 3, some .int, tb_hn 26)
def wj_X3_placeAfter_115 (Q : Int → am_M → Prop) (v0 : Int) (v1 : Int) (s0 : Int) (M : am_M) : Prop := (am_rg s0) ∧ (¬ s0 = 0 → Q (-1) M) ∧ (¬ (¬ s0 = 0) → wp_X3_isDigit v1 M (fun x1 M2 => (am_rg x1) ∧ (x1 = 0 → Q (-1) M2) ∧ (¬ x1 = 0 → Q (v0 + 1) M2)))
def wj_X3_placeAfter_110 (Q : Int → am_M → Prop) (v0 : Int) (v1 : Int) (M : am_M) : Prop := wj_X3_placeAfter_115 Q v0 v1 1 M
def wj_X3_placeAfter_75 (Q : Int → am_M → Prop) (v0 : Int) (v1 : Int) (M : am_M) : Prop := (am_rg v0) ∧ (7 < v0 → (am_rg v1) ∧ (¬ v1 = 44 → (am_rg v0) ∧ (v0 = 8 → wj_X3_placeAfter_110 Q v0 v1 M) ∧ (¬ v0 = 8 → (am_rg v0) ∧ (¬ v0 = 11 → wj_X3_placeAfter_115 Q v0 v1 0 M) ∧ (¬ (¬ v0 = 11) → wj_X3_placeAfter_110 Q v0 v1 M))) ∧ (¬ (¬ v1 = 44) → Q 0 M)) ∧ (¬ 7 < v0 → wp_X3_placeAfterFirstDigit v1 8 9 M (fun x3 M4 => Q x3 M4))
def wj_X3_placeAfter_40 (Q : Int → am_M → Prop) (v0 : Int) (v1 : Int) (s0 : Int) (M : am_M) : Prop := (am_rg s0) ∧ (¬ s0 = 0 → Q (-1) M) ∧ (¬ (¬ s0 = 0) → wp_X3_isDigit v1 M (fun x5 M6 => (am_rg x5) ∧ (x5 = 0 → Q (-1) M6) ∧ (¬ x5 = 0 → Q (v0 + 1) M6)))
def wj_X3_placeAfter_35 (Q : Int → am_M → Prop) (v0 : Int) (v1 : Int) (M : am_M) : Prop := wj_X3_placeAfter_40 Q v0 v1 1 M
def wp_X3_placeAfter (a0 : Int) (a1 : Int) (M : am_M) (Q : Int → am_M → Prop) : Prop := (am_rg a0) ∧ (¬ a0 = 0 → (am_rg a0) ∧ (5 < a0 → (am_rg a0) ∧ (¬ a0 = 6 → wj_X3_placeAfter_75 Q a0 a1 M) ∧ (¬ (¬ a0 = 6) → (am_rg a1) ∧ (¬ a1 = 45 → wj_X3_placeAfter_75 Q a0 a1 M) ∧ (¬ (¬ a1 = 45) → Q 7 M))) ∧ (¬ 5 < a0 → (am_rg a1) ∧ (¬ a1 = 58 → (am_rg a0) ∧ (a0 = 1 → wj_X3_placeAfter_35 Q a0 a1 M) ∧ (¬ a0 = 1 → (am_rg a0) ∧ (¬ a0 = 5 → wj_X3_placeAfter_40 Q a0 a1 0 M) ∧ (¬ (¬ a0 = 5) → wj_X3_placeAfter_35 Q a0 a1 M))) ∧ (¬ (¬ a1 = 58) → Q 6 M))) ∧ (¬ (¬ a0 = 0) → wp_X3_placeAfterFirstDigit a1 1 2 M (fun x7 M8 => Q x7 M8))
set_option maxRecDepth 20000 in
theorem tj_X3_placeAfter_115 {Q : Int → am_M → Prop} {QX : am_X} (v0 : Int) (v1 : Int) (s0 : Int) (M : am_M) (h : wj_X3_placeAfter_115 Q v0 v1 s0 M) : am_W (am_CC 2) dt_X3_placeAfter 2 0 none (am_QI Q) QX (0, 115, [(0, .inl (v0)), (1, .inl (v1))], [.inl (s0)], M) := by
  refine am_Wrun 2 (ps := []) (pc' := 117) (lv' := [(2, .inl (s0)), (0, .inl (v0)), (1, .inl (v1))]) (st' := [.inl (s0)]) (M' := M) rfl trivial ?_
  obtain ⟨b0, ht, hf⟩ := h
  refine am_Wbr (P := [am_rg s0]) (c := ¬ s0 = 0) (t := 133) (f := 120) (st' := []) rfl rfl ⟨b0, trivial⟩ rfl (fun q => ?_) (fun q => ?_)
  · have h := ht q
    refine am_Wrun 1 (ps := []) (pc' := 134) (lv' := [(2, .inl (s0)), (0, .inl (v0)), (1, .inl (v1))]) (st' := [.inl ((-1))]) (M' := M) rfl trivial ?_
    exact am_Wreti rfl rfl h
  · have h := hf q
    refine am_Wrun 1 (ps := []) (pc' := 121) (lv' := [(2, .inl (s0)), (0, .inl (v0)), (1, .inl (v1))]) (st' := [.inl (v1)]) (M' := M) rfl trivial ?_
    refine am_WcallS (y := 28) (n := 1) (f := 124) (co := 0) (as := [.inl (v1)]) (st' := []) rfl rfl rfl rfl rfl rfl rfl rfl rfl (Nat.zero_le _) rfl (am_CC_le (Nat.le_of_ble_eq_true rfl) (tm_X3_isDigit h)) (fun r M2 q => ?_) (fun _ _ q => q.elim)
    obtain ⟨x1, rfl, h⟩ := q
    obtain ⟨b0, ht, hf⟩ := h
    refine am_Wbr (P := [am_rg x1]) (c := x1 = 0) (t := 133) (f := 127) (st' := []) rfl rfl ⟨b0, trivial⟩ rfl (fun q => ?_) (fun q => ?_)
    · have h := ht q
      refine am_Wrun 1 (ps := []) (pc' := 134) (lv' := [(2, .inl (s0)), (0, .inl (v0)), (1, .inl (v1))]) (st' := [.inl ((-1))]) (M' := M2) rfl trivial ?_
      exact am_Wreti rfl rfl h
    · have h := hf q
      refine am_Wrun 4 (ps := []) (pc' := 134) (lv' := [(2, .inl (s0)), (0, .inl (v0)), (1, .inl (v1))]) (st' := [.inl (v0 + 1)]) (M' := M2) rfl trivial ?_
      exact am_Wreti rfl rfl h
set_option maxRecDepth 20000 in
theorem tj_X3_placeAfter_110 {Q : Int → am_M → Prop} {QX : am_X} (v0 : Int) (v1 : Int) (M : am_M) (h : wj_X3_placeAfter_110 Q v0 v1 M) : am_W (am_CC 2) dt_X3_placeAfter 2 0 none (am_QI Q) QX (0, 110, [(0, .inl (v0)), (1, .inl (v1))], [], M) := by
  refine am_Wrun 2 (ps := []) (pc' := 115) (lv' := [(0, .inl (v0)), (1, .inl (v1))]) (st' := [.inl (1)]) (M' := M) rfl trivial ?_
  refine am_W_sub [0, 1] rfl ?_
  exact tj_X3_placeAfter_115 v0 v1 1 M h
set_option maxRecDepth 20000 in
theorem tj_X3_placeAfter_75 {Q : Int → am_M → Prop} {QX : am_X} (v0 : Int) (v1 : Int) (M : am_M) (h : wj_X3_placeAfter_75 Q v0 v1 M) : am_W (am_CC 2) dt_X3_placeAfter 2 0 none (am_QI Q) QX (0, 75, [(0, .inl (v0)), (1, .inl (v1))], [], M) := by
  refine am_Wrun 2 (ps := [-128 ≤ (7 : Int) ∧ (7 : Int) ≤ 127]) (pc' := 78) (lv' := [(0, .inl (v0)), (1, .inl (v1))]) (st' := [.inl (7), .inl (v0)]) (M' := M) rfl ⟨⟨by decide, by decide⟩, trivial⟩ ?_
  obtain ⟨b0, ht, hf⟩ := h
  refine am_Wbr (P := [am_rg v0, am_rg 7]) (c := 7 < v0) (t := 90) (f := 81) (st' := []) rfl rfl ⟨b0, (am_rgd rfl), trivial⟩ rfl (fun q => ?_) (fun q => ?_)
  · have h := ht q
    refine am_Wrun 2 (ps := [-128 ≤ (44 : Int) ∧ (44 : Int) ≤ 127]) (pc' := 93) (lv' := [(0, .inl (v0)), (1, .inl (v1))]) (st' := [.inl (44), .inl (v1)]) (M' := M) rfl ⟨⟨by decide, by decide⟩, trivial⟩ ?_
    obtain ⟨b0, ht, hf⟩ := h
    refine am_Wbr (P := [am_rg v1, am_rg 44]) (c := ¬ v1 = 44) (t := 98) (f := 96) (st' := []) rfl rfl ⟨b0, (am_rgd rfl), trivial⟩ rfl (fun q => ?_) (fun q => ?_)
    · have h := ht q
      refine am_Wrun 2 (ps := [-128 ≤ (8 : Int) ∧ (8 : Int) ≤ 127]) (pc' := 101) (lv' := [(0, .inl (v0)), (1, .inl (v1))]) (st' := [.inl (8), .inl (v0)]) (M' := M) rfl ⟨⟨by decide, by decide⟩, trivial⟩ ?_
      obtain ⟨b0, ht, hf⟩ := h
      refine am_Wbr (P := [am_rg v0, am_rg 8]) (c := v0 = 8) (t := 110) (f := 104) (st' := []) rfl rfl ⟨b0, (am_rgd rfl), trivial⟩ rfl (fun q => ?_) (fun q => ?_)
      · have h := ht q
        refine am_W_sub [0, 1] rfl ?_
        exact tj_X3_placeAfter_110 v0 v1 M h
      · have h := hf q
        refine am_Wrun 2 (ps := [-128 ≤ (11 : Int) ∧ (11 : Int) ≤ 127]) (pc' := 107) (lv' := [(0, .inl (v0)), (1, .inl (v1))]) (st' := [.inl (11), .inl (v0)]) (M' := M) rfl ⟨⟨by decide, by decide⟩, trivial⟩ ?_
        obtain ⟨b0, ht, hf⟩ := h
        refine am_Wbr (P := [am_rg v0, am_rg 11]) (c := ¬ v0 = 11) (t := 114) (f := 110) (st' := []) rfl rfl ⟨b0, (am_rgd rfl), trivial⟩ rfl (fun q => ?_) (fun q => ?_)
        · have h := ht q
          refine am_Wrun 1 (ps := []) (pc' := 115) (lv' := [(0, .inl (v0)), (1, .inl (v1))]) (st' := [.inl (0)]) (M' := M) rfl trivial ?_
          refine am_W_sub [0, 1] rfl ?_
          exact tj_X3_placeAfter_115 v0 v1 0 M h
        · have h := hf q
          refine am_W_sub [0, 1] rfl ?_
          exact tj_X3_placeAfter_110 v0 v1 M h
    · have h := hf q
      refine am_Wrun 1 (ps := []) (pc' := 97) (lv' := [(0, .inl (v0)), (1, .inl (v1))]) (st' := [.inl (0)]) (M' := M) rfl trivial ?_
      exact am_Wreti rfl rfl h
  · have h := hf q
    refine am_Wrun 3 (ps := [-128 ≤ (8 : Int) ∧ (8 : Int) ≤ 127, -128 ≤ (9 : Int) ∧ (9 : Int) ≤ 127]) (pc' := 86) (lv' := [(0, .inl (v0)), (1, .inl (v1))]) (st' := [.inl (9), .inl (8), .inl (v1)]) (M' := M) rfl ⟨⟨by decide, by decide⟩, ⟨by decide, by decide⟩, trivial⟩ ?_
    refine am_WcallS (y := 27) (n := 3) (f := 89) (co := 0) (as := [.inl (v1), .inl (8), .inl (9)]) (st' := []) rfl rfl rfl rfl rfl rfl rfl rfl rfl (Nat.zero_le _) rfl (am_CC_le (Nat.le_of_ble_eq_true rfl) (tm_X3_placeAfterFirstDigit h)) (fun r M4 q => ?_) (fun _ _ q => q.elim)
    obtain ⟨x3, rfl, h⟩ := q
    exact am_Wreti rfl rfl h
set_option maxRecDepth 20000 in
theorem tj_X3_placeAfter_40 {Q : Int → am_M → Prop} {QX : am_X} (v0 : Int) (v1 : Int) (s0 : Int) (M : am_M) (h : wj_X3_placeAfter_40 Q v0 v1 s0 M) : am_W (am_CC 2) dt_X3_placeAfter 2 0 none (am_QI Q) QX (0, 40, [(0, .inl (v0)), (1, .inl (v1))], [.inl (s0)], M) := by
  refine am_Wrun 2 (ps := []) (pc' := 42) (lv' := [(2, .inl (s0)), (0, .inl (v0)), (1, .inl (v1))]) (st' := [.inl (s0)]) (M' := M) rfl trivial ?_
  obtain ⟨b0, ht, hf⟩ := h
  refine am_Wbr (P := [am_rg s0]) (c := ¬ s0 = 0) (t := 58) (f := 45) (st' := []) rfl rfl ⟨b0, trivial⟩ rfl (fun q => ?_) (fun q => ?_)
  · have h := ht q
    refine am_Wrun 1 (ps := []) (pc' := 59) (lv' := [(2, .inl (s0)), (0, .inl (v0)), (1, .inl (v1))]) (st' := [.inl ((-1))]) (M' := M) rfl trivial ?_
    exact am_Wreti rfl rfl h
  · have h := hf q
    refine am_Wrun 1 (ps := []) (pc' := 46) (lv' := [(2, .inl (s0)), (0, .inl (v0)), (1, .inl (v1))]) (st' := [.inl (v1)]) (M' := M) rfl trivial ?_
    refine am_WcallS (y := 28) (n := 1) (f := 49) (co := 0) (as := [.inl (v1)]) (st' := []) rfl rfl rfl rfl rfl rfl rfl rfl rfl (Nat.zero_le _) rfl (am_CC_le (Nat.le_of_ble_eq_true rfl) (tm_X3_isDigit h)) (fun r M6 q => ?_) (fun _ _ q => q.elim)
    obtain ⟨x5, rfl, h⟩ := q
    obtain ⟨b0, ht, hf⟩ := h
    refine am_Wbr (P := [am_rg x5]) (c := x5 = 0) (t := 58) (f := 52) (st' := []) rfl rfl ⟨b0, trivial⟩ rfl (fun q => ?_) (fun q => ?_)
    · have h := ht q
      refine am_Wrun 1 (ps := []) (pc' := 59) (lv' := [(2, .inl (s0)), (0, .inl (v0)), (1, .inl (v1))]) (st' := [.inl ((-1))]) (M' := M6) rfl trivial ?_
      exact am_Wreti rfl rfl h
    · have h := hf q
      refine am_Wrun 4 (ps := []) (pc' := 59) (lv' := [(2, .inl (s0)), (0, .inl (v0)), (1, .inl (v1))]) (st' := [.inl (v0 + 1)]) (M' := M6) rfl trivial ?_
      exact am_Wreti rfl rfl h
set_option maxRecDepth 20000 in
theorem tj_X3_placeAfter_35 {Q : Int → am_M → Prop} {QX : am_X} (v0 : Int) (v1 : Int) (M : am_M) (h : wj_X3_placeAfter_35 Q v0 v1 M) : am_W (am_CC 2) dt_X3_placeAfter 2 0 none (am_QI Q) QX (0, 35, [(0, .inl (v0)), (1, .inl (v1))], [], M) := by
  refine am_Wrun 2 (ps := []) (pc' := 40) (lv' := [(0, .inl (v0)), (1, .inl (v1))]) (st' := [.inl (1)]) (M' := M) rfl trivial ?_
  refine am_W_sub [0, 1] rfl ?_
  exact tj_X3_placeAfter_40 v0 v1 1 M h
set_option maxRecDepth 20000 in
theorem tm_X3_placeAfter {a0 a1 : Int} {M : am_M} {Q : Int → am_M → Prop} (h : wp_X3_placeAfter a0 a1 M Q) : am_CC 3 26 [.inl (a0), .inl (a1)] M (am_QI Q) (fun _ _ => False) := by
  refine ⟨Nat.le_of_ble_eq_true rfl, ?_⟩
  show am_W (am_CC 2) dt_X3_placeAfter 2 0 none (am_QI Q) (am_qx 26 (fun _ _ => False)) (0, 0, [(0, .inl (a0)), (1, .inl (a1))], [], M)
  refine am_Wrun 1 (ps := []) (pc' := 1) (lv' := [(0, .inl (a0)), (1, .inl (a1))]) (st' := [.inl (a0)]) (M' := M) rfl trivial ?_
  obtain ⟨b0, ht, hf⟩ := h
  refine am_Wbr (P := [am_rg a0]) (c := ¬ a0 = 0) (t := 11) (f := 4) (st' := []) rfl rfl ⟨b0, trivial⟩ rfl (fun q => ?_) (fun q => ?_)
  · have h := ht q
    refine am_Wrun 2 (ps := []) (pc' := 13) (lv' := [(0, .inl (a0)), (1, .inl (a1))]) (st' := [.inl (5), .inl (a0)]) (M' := M) rfl trivial ?_
    obtain ⟨b0, ht, hf⟩ := h
    refine am_Wbr (P := [am_rg a0, am_rg 5]) (c := 5 < a0) (t := 60) (f := 16) (st' := []) rfl rfl ⟨b0, (am_rgd rfl), trivial⟩ rfl (fun q => ?_) (fun q => ?_)
    · have h := ht q
      refine am_Wrun 2 (ps := [-128 ≤ (6 : Int) ∧ (6 : Int) ≤ 127]) (pc' := 63) (lv' := [(0, .inl (a0)), (1, .inl (a1))]) (st' := [.inl (6), .inl (a0)]) (M' := M) rfl ⟨⟨by decide, by decide⟩, trivial⟩ ?_
      obtain ⟨b0, ht, hf⟩ := h
      refine am_Wbr (P := [am_rg a0, am_rg 6]) (c := ¬ a0 = 6) (t := 75) (f := 66) (st' := []) rfl rfl ⟨b0, (am_rgd rfl), trivial⟩ rfl (fun q => ?_) (fun q => ?_)
      · have h := ht q
        refine am_W_sub [0, 1] rfl ?_
        exact tj_X3_placeAfter_75 a0 a1 M h
      · have h := hf q
        refine am_Wrun 2 (ps := [-128 ≤ (45 : Int) ∧ (45 : Int) ≤ 127]) (pc' := 69) (lv' := [(0, .inl (a0)), (1, .inl (a1))]) (st' := [.inl (45), .inl (a1)]) (M' := M) rfl ⟨⟨by decide, by decide⟩, trivial⟩ ?_
        obtain ⟨b0, ht, hf⟩ := h
        refine am_Wbr (P := [am_rg a1, am_rg 45]) (c := ¬ a1 = 45) (t := 75) (f := 72) (st' := []) rfl rfl ⟨b0, (am_rgd rfl), trivial⟩ rfl (fun q => ?_) (fun q => ?_)
        · have h := ht q
          refine am_W_sub [0, 1] rfl ?_
          exact tj_X3_placeAfter_75 a0 a1 M h
        · have h := hf q
          refine am_Wrun 1 (ps := [-128 ≤ (7 : Int) ∧ (7 : Int) ≤ 127]) (pc' := 74) (lv' := [(0, .inl (a0)), (1, .inl (a1))]) (st' := [.inl (7)]) (M' := M) rfl ⟨⟨by decide, by decide⟩, trivial⟩ ?_
          exact am_Wreti rfl rfl h
    · have h := hf q
      refine am_Wrun 2 (ps := [-128 ≤ (58 : Int) ∧ (58 : Int) ≤ 127]) (pc' := 19) (lv' := [(0, .inl (a0)), (1, .inl (a1))]) (st' := [.inl (58), .inl (a1)]) (M' := M) rfl ⟨⟨by decide, by decide⟩, trivial⟩ ?_
      obtain ⟨b0, ht, hf⟩ := h
      refine am_Wbr (P := [am_rg a1, am_rg 58]) (c := ¬ a1 = 58) (t := 25) (f := 22) (st' := []) rfl rfl ⟨b0, (am_rgd rfl), trivial⟩ rfl (fun q => ?_) (fun q => ?_)
      · have h := ht q
        refine am_Wrun 2 (ps := []) (pc' := 27) (lv' := [(0, .inl (a0)), (1, .inl (a1))]) (st' := [.inl (1), .inl (a0)]) (M' := M) rfl trivial ?_
        obtain ⟨b0, ht, hf⟩ := h
        refine am_Wbr (P := [am_rg a0, am_rg 1]) (c := a0 = 1) (t := 35) (f := 30) (st' := []) rfl rfl ⟨b0, (am_rgd rfl), trivial⟩ rfl (fun q => ?_) (fun q => ?_)
        · have h := ht q
          refine am_W_sub [0, 1] rfl ?_
          exact tj_X3_placeAfter_35 a0 a1 M h
        · have h := hf q
          refine am_Wrun 2 (ps := []) (pc' := 32) (lv' := [(0, .inl (a0)), (1, .inl (a1))]) (st' := [.inl (5), .inl (a0)]) (M' := M) rfl trivial ?_
          obtain ⟨b0, ht, hf⟩ := h
          refine am_Wbr (P := [am_rg a0, am_rg 5]) (c := ¬ a0 = 5) (t := 39) (f := 35) (st' := []) rfl rfl ⟨b0, (am_rgd rfl), trivial⟩ rfl (fun q => ?_) (fun q => ?_)
          · have h := ht q
            refine am_Wrun 1 (ps := []) (pc' := 40) (lv' := [(0, .inl (a0)), (1, .inl (a1))]) (st' := [.inl (0)]) (M' := M) rfl trivial ?_
            refine am_W_sub [0, 1] rfl ?_
            exact tj_X3_placeAfter_40 a0 a1 0 M h
          · have h := hf q
            refine am_W_sub [0, 1] rfl ?_
            exact tj_X3_placeAfter_35 a0 a1 M h
      · have h := hf q
        refine am_Wrun 1 (ps := [-128 ≤ (6 : Int) ∧ (6 : Int) ≤ 127]) (pc' := 24) (lv' := [(0, .inl (a0)), (1, .inl (a1))]) (st' := [.inl (6)]) (M' := M) rfl ⟨⟨by decide, by decide⟩, trivial⟩ ?_
        exact am_Wreti rfl rfl h
  · have h := hf q
    refine am_Wrun 3 (ps := []) (pc' := 7) (lv' := [(0, .inl (a0)), (1, .inl (a1))]) (st' := [.inl (2), .inl (1), .inl (a1)]) (M' := M) rfl trivial ?_
    refine am_WcallS (y := 27) (n := 3) (f := 10) (co := 0) (as := [.inl (a1), .inl (1), .inl (2)]) (st' := []) rfl rfl rfl rfl rfl rfl rfl rfl rfl (Nat.zero_le _) rfl (am_CC_le (Nat.le_of_ble_eq_true rfl) (tm_X3_placeAfterFirstDigit h)) (fun r M8 q => ?_) (fun _ _ q => q.elim)
    obtain ⟨x7, rfl, h⟩ := q
    exact am_Wreti rfl rfl h
abbrev dt_X3_goodLength : am_D := (tk_X3_goodLength, 3, 3, some .int, tb_hn 25)
def wl_X3_goodLength_4 (Q : Int → am_M → Prop) : Nat → Int → Int → am_M → Prop
  | 0, _, _, _ => False
  | n + 1, v1, v2, M => (am_rg v2) ∧ (am_rg (M 64 1)) ∧ ((M 64 1) ≤ v2 → Q (M 64 1) M) ∧ (¬ (M 64 1) ≤ v2 → (0 ≤ (v2 : Int) ∧ (v2 : Int) < 60) ∧ (wp_X3_placeAfter v1 (M 65 v2) M (fun x1 M2 => (am_rg x1) ∧ (¬ x1 = (-1) → wl_X3_goodLength_4 Q n x1 (v2 + 1) M2) ∧ (¬ (¬ x1 = (-1)) → Q v2 M2))))
def wp_X3_goodLength (M : am_M) (Q : Int → am_M → Prop) : Prop := ∃ e4, wl_X3_goodLength_4 Q e4 0 0 M
set_option maxRecDepth 20000 in
theorem tw_X3_goodLength_4 {Q : Int → am_M → Prop} {QX : am_X} : ∀ (n : Nat) (v1 : Int) (v2 : Int) (M : am_M), wl_X3_goodLength_4 Q n v1 v2 M → am_W (am_CC 3) dt_X3_goodLength 3 0 none (am_QI Q) QX (0, 4, [(0, .inr (.inl (some 64))), (1, .inl (v1)), (2, .inl (v2))], [], M)
  | 0, _, _, _, h => h.elim
  | n + 1, v1, v2, M, h => by
    refine am_Wrun 3 (ps := []) (pc' := 9) (lv' := [(0, .inr (.inl (some 64))), (1, .inl (v1)), (2, .inl (v2))]) (st' := [.inl (M 64 1), .inl (v2)]) (M' := M) rfl trivial ?_
    obtain ⟨b0, b1, ht, hf⟩ := h
    refine am_Wbr (P := [am_rg v2, am_rg (M 64 1)]) (c := (M 64 1) ≤ v2) (t := 36) (f := 12) (st' := []) rfl rfl ⟨b0, b1, trivial⟩ rfl (fun q => ?_) (fun q => ?_)
    · have h := ht q
      refine am_Wrun 2 (ps := []) (pc' := 40) (lv' := [(0, .inr (.inl (some 64))), (1, .inl (v1)), (2, .inl (v2))]) (st' := [.inl (M 64 1)]) (M' := M) rfl trivial ?_
      exact am_Wreti rfl rfl h
    · have h := hf q
      obtain ⟨c0_0, h⟩ := h
      refine am_Wrun 5 (ps := [0 ≤ (v2 : Int) ∧ (v2 : Int) < 60]) (pc' := 19) (lv' := [(0, .inr (.inl (some 64))), (1, .inl (v1)), (2, .inl (v2))]) (st' := [.inl (M 65 v2), .inl (v1)]) (M' := M) rfl ⟨c0_0, trivial⟩ ?_
      refine am_WcallS (y := 26) (n := 2) (f := 22) (co := 0) (as := [.inl (v1), .inl (M 65 v2)]) (st' := []) rfl rfl rfl rfl rfl rfl rfl rfl rfl (Nat.zero_le _) rfl (am_CC_le (Nat.le_of_ble_eq_true rfl) (tm_X3_placeAfter h)) (fun r M2 q => ?_) (fun _ _ q => q.elim)
      obtain ⟨x1, rfl, h⟩ := q
      refine am_Wrun 3 (ps := []) (pc' := 25) (lv' := [(1, .inl (x1)), (0, .inr (.inl (some 64))), (2, .inl (v2))]) (st' := [.inl ((-1)), .inl (x1)]) (M' := M2) rfl trivial ?_
      obtain ⟨b0, ht, hf⟩ := h
      refine am_Wbr (P := [am_rg x1, am_rg (-1)]) (c := ¬ x1 = (-1)) (t := 30) (f := 28) (st' := []) rfl rfl ⟨b0, (am_rgd rfl), trivial⟩ rfl (fun q => ?_) (fun q => ?_)
      · have h := ht q
        refine am_Wrun 2 (ps := []) (pc' := 4) (lv' := [(2, .inl (v2 + 1)), (1, .inl (x1)), (0, .inr (.inl (some 64)))]) (st' := []) (M' := M2) rfl trivial ?_
        refine am_W_sub [2, 1, 0] rfl ?_
        exact tw_X3_goodLength_4 n x1 (v2 + 1) M2 h
      · have h := hf q
        refine am_Wrun 1 (ps := []) (pc' := 29) (lv' := [(1, .inl (x1)), (0, .inr (.inl (some 64))), (2, .inl (v2))]) (st' := [.inl (v2)]) (M' := M2) rfl trivial ?_
        exact am_Wreti rfl rfl h
set_option maxRecDepth 20000 in
theorem tm_X3_goodLength {M : am_M} {Q : Int → am_M → Prop} (h : wp_X3_goodLength M Q) : am_CC 4 25 [.inr (.inl (some 64))] M (am_QI Q) (fun _ _ => False) := by
  refine ⟨Nat.le_of_ble_eq_true rfl, ?_⟩
  show am_W (am_CC 3) dt_X3_goodLength 3 0 none (am_QI Q) (am_qx 25 (fun _ _ => False)) (0, 0, [(0, .inr (.inl (some 64)))], [], M)
  refine am_Wrun 4 (ps := []) (pc' := 4) (lv' := [(2, .inl (0)), (1, .inl (0)), (0, .inr (.inl (some 64)))]) (st' := []) (M' := M) rfl trivial ?_
  refine am_W_sub [2, 1, 0] rfl ?_
  obtain ⟨n4, h⟩ := h
  exact tw_X3_goodLength_4 n4 0 0 M h
abbrev dt_X5_firstError : am_D := (tk_X5_firstError, 5, 1, some .int, tb_hn 24)
def wp_X5_firstError (M : am_M) (Q : Int → am_M → Prop) : Prop := wp_X3_goodLength M (fun x1 M2 => Q x1 M2)
set_option maxRecDepth 20000 in
theorem tm_X5_firstError {M : am_M} {Q : Int → am_M → Prop} (h : wp_X5_firstError M Q) : am_CC 5 24 [.inr (.inl (some 0))] M (am_QI Q) (fun _ _ => False) := by
  refine ⟨Nat.le_of_ble_eq_true rfl, ?_⟩
  show am_W (am_CC 4) dt_X5_firstError 4 0 none (am_QI Q) (am_qx 24 (fun _ _ => False)) (0, 0, [(0, .inr (.inl (some 0)))], [], M)
  refine am_Wrun 2 (ps := []) (pc' := 4) (lv' := [(0, .inr (.inl (some 0)))]) (st' := [.inr (.inl (some 64))]) (M' := M) rfl trivial ?_
  refine am_WcallV (y := 25) (n := 1) (a := 64) (f := 7) (as := []) (st' := []) rfl rfl rfl rfl rfl rfl rfl rfl rfl rfl (Nat.zero_le _) rfl (am_CC_le (Nat.le_of_ble_eq_true rfl) (tm_X3_goodLength h)) (fun r M2 q => ?_) (fun _ _ q => q.elim)
  obtain ⟨x1, rfl, h⟩ := q
  exact am_Wreti rfl rfl h
abbrev dt_X6_readNumber : am_D := (tk_X6_readNumber, 6, 3, some .boolean, tb_hn 162)
def wj_X6_readNumber_106 (Q : Int → am_M → Prop) (v2 : Int) (M : am_M) : Prop := (am_rg (M 69 19)) ∧ (am_rg v2) ∧ ((M 69 19) ≤ v2 → Q 0 M) ∧ (¬ (M 69 19) ≤ v2 → Q 1 M)
def wj_X6_readNumber_69 (Q : Int → am_M → Prop) (k10 : Int → Int → am_M → Prop) (v1 : Int) (v2 : Int) (M : am_M) : Prop := (0 ≤ (M 69 19 : Int) ∧ (M 69 19 : Int) < 60) ∧ (k10 v1 v2 (am_up (am_up M 69 20 (((10 * (M 69 20)) + (M 72 (M 69 19))) - 48)) 69 19 (((am_up M 69 20 (((10 * (M 69 20)) + (M 72 (M 69 19))) - 48)) 69 19) + 1)))
def wl_X6_readNumber_10 (Q : Int → am_M → Prop) : Nat → Int → Int → am_M → Prop
  | 0, _, _, _ => False
  | n + 1, v1, v2, M => (am_rg (M 69 19)) ∧ (am_rg (M 69 4)) ∧ ((M 69 4) ≤ (M 69 19) → wj_X6_readNumber_106 Q v2 M) ∧ (¬ (M 69 4) ≤ (M 69 19) → (am_rg (M 69 19)) ∧ (am_rg (v2 + v1)) ∧ ((v2 + v1) ≤ (M 69 19) → wj_X6_readNumber_106 Q v2 M) ∧ (¬ (v2 + v1) ≤ (M 69 19) → (0 ≤ (M 69 19 : Int) ∧ (M 69 19 : Int) < 60) ∧ (wp_X6_in (M 72 (M 69 19)) 48 57 M (fun x1 M2 => (am_rg x1) ∧ (x1 = 0 → wj_X6_readNumber_106 Q v2 M2) ∧ (¬ x1 = 0 → (am_rg (M2 69 19)) ∧ (am_rg v2) ∧ ((M2 69 19) = v2 → wj_X6_readNumber_69 Q (wl_X6_readNumber_10 Q n) v1 v2 M2) ∧ (¬ (M2 69 19) = v2 → (0 ≤ (v2 : Int) ∧ (v2 : Int) < 60) ∧ ((am_rg (M2 72 v2)) ∧ ((M2 72 v2) = 48 → wj_X6_readNumber_106 Q v2 M2) ∧ (¬ (M2 72 v2) = 48 → wj_X6_readNumber_69 Q (wl_X6_readNumber_10 Q n) v1 v2 M2))))))))
def wp_X6_readNumber (a0 : Int) (M : am_M) (Q : Int → am_M → Prop) : Prop := ∃ e10, wl_X6_readNumber_10 Q e10 a0 (M 69 19) (am_up M 69 20 0)
set_option maxRecDepth 20000 in
theorem tj_X6_readNumber_106 {Q : Int → am_M → Prop} {QX : am_X} (v2 : Int) (M : am_M) (h : wj_X6_readNumber_106 Q v2 M) : am_W (am_CC 1) dt_X6_readNumber 1 0 none (am_QI Q) QX (0, 106, [(0, .inr (.inl (some 69))), (2, .inl (v2))], [], M) := by
  refine am_Wrun 3 (ps := []) (pc' := 111) (lv' := [(0, .inr (.inl (some 69))), (2, .inl (v2))]) (st' := [.inl (v2), .inl (M 69 19)]) (M' := M) rfl trivial ?_
  obtain ⟨b0, b1, ht, hf⟩ := h
  refine am_Wbr (P := [am_rg (M 69 19), am_rg v2]) (c := (M 69 19) ≤ v2) (t := 118) (f := 114) (st' := []) rfl rfl ⟨b0, b1, trivial⟩ rfl (fun q => ?_) (fun q => ?_)
  · have h := ht q
    refine am_Wrun 1 (ps := []) (pc' := 119) (lv' := [(0, .inr (.inl (some 69))), (2, .inl (v2))]) (st' := [.inl (0)]) (M' := M) rfl trivial ?_
    exact am_Wretz rfl rfl (Or.inl rfl) h
  · have h := hf q
    refine am_Wrun 2 (ps := []) (pc' := 119) (lv' := [(0, .inr (.inl (some 69))), (2, .inl (v2))]) (st' := [.inl (1)]) (M' := M) rfl trivial ?_
    exact am_Wretz rfl rfl (Or.inr rfl) h
set_option maxRecDepth 20000 in
theorem tj_X6_readNumber_69 {Q : Int → am_M → Prop} {QX : am_X} {k10 : Int → Int → am_M → Prop} (hk10 : ∀ (v1 : Int) (v2 : Int) (M : am_M), k10 v1 v2 M → am_W (am_CC 1) dt_X6_readNumber 1 0 none (am_QI Q) QX (0, 10, [(0, .inr (.inl (some 69))), (1, .inl (v1)), (2, .inl (v2))], [], M)) (v1 : Int) (v2 : Int) (M : am_M) (h : wj_X6_readNumber_69 Q k10 v1 v2 M) : am_W (am_CC 1) dt_X6_readNumber 1 0 none (am_QI Q) QX (0, 69, [(0, .inr (.inl (some 69))), (1, .inl (v1)), (2, .inl (v2))], [], M) := by
  obtain ⟨c1_0, h⟩ := h
  refine am_Wrun 21 (ps := [-128 ≤ (10 : Int) ∧ (10 : Int) ≤ 127, 0 ≤ (M 69 19 : Int) ∧ (M 69 19 : Int) < 60, -128 ≤ (48 : Int) ∧ (48 : Int) ≤ 127]) (pc' := 10) (lv' := [(0, .inr (.inl (some 69))), (1, .inl (v1)), (2, .inl (v2))]) (st' := []) (M' := (am_up (am_up M 69 20 (((10 * (M 69 20)) + (M 72 (M 69 19))) - 48)) 69 19 (((am_up M 69 20 (((10 * (M 69 20)) + (M 72 (M 69 19))) - 48)) 69 19) + 1))) rfl ⟨⟨by decide, by decide⟩, c1_0, ⟨by decide, by decide⟩, trivial⟩ ?_
  refine am_W_sub [0, 1, 2] rfl ?_
  exact hk10 v1 v2 (am_up (am_up M 69 20 (((10 * (M 69 20)) + (M 72 (M 69 19))) - 48)) 69 19 (((am_up M 69 20 (((10 * (M 69 20)) + (M 72 (M 69 19))) - 48)) 69 19) + 1)) h
set_option maxRecDepth 20000 in
theorem tw_X6_readNumber_10 {Q : Int → am_M → Prop} {QX : am_X} : ∀ (n : Nat) (v1 : Int) (v2 : Int) (M : am_M), wl_X6_readNumber_10 Q n v1 v2 M → am_W (am_CC 1) dt_X6_readNumber 1 0 none (am_QI Q) QX (0, 10, [(0, .inr (.inl (some 69))), (1, .inl (v1)), (2, .inl (v2))], [], M)
  | 0, _, _, _, h => h.elim
  | n + 1, v1, v2, M, h => by
    refine am_Wrun 4 (ps := []) (pc' := 18) (lv' := [(0, .inr (.inl (some 69))), (1, .inl (v1)), (2, .inl (v2))]) (st' := [.inl (M 69 4), .inl (M 69 19)]) (M' := M) rfl trivial ?_
    obtain ⟨b0, b1, ht, hf⟩ := h
    refine am_Wbr (P := [am_rg (M 69 19), am_rg (M 69 4)]) (c := (M 69 4) ≤ (M 69 19)) (t := 106) (f := 21) (st' := []) rfl rfl ⟨b0, b1, trivial⟩ rfl (fun q => ?_) (fun q => ?_)
    · have h := ht q
      refine am_W_sub [0, 2] rfl ?_
      exact tj_X6_readNumber_106 v2 M h
    · have h := hf q
      refine am_Wrun 5 (ps := []) (pc' := 28) (lv' := [(0, .inr (.inl (some 69))), (1, .inl (v1)), (2, .inl (v2))]) (st' := [.inl (v2 + v1), .inl (M 69 19)]) (M' := M) rfl trivial ?_
      obtain ⟨b0, b1, ht, hf⟩ := h
      refine am_Wbr (P := [am_rg (M 69 19), am_rg (v2 + v1)]) (c := (v2 + v1) ≤ (M 69 19)) (t := 106) (f := 31) (st' := []) rfl rfl ⟨b0, b1, trivial⟩ rfl (fun q => ?_) (fun q => ?_)
      · have h := ht q
        refine am_W_sub [0, 2] rfl ?_
        exact tj_X6_readNumber_106 v2 M h
      · have h := hf q
        obtain ⟨c0_0, h⟩ := h
        refine am_Wrun 7 (ps := [0 ≤ (M 69 19 : Int) ∧ (M 69 19 : Int) < 60, -128 ≤ (48 : Int) ∧ (48 : Int) ≤ 127, -128 ≤ (57 : Int) ∧ (57 : Int) ≤ 127]) (pc' := 44) (lv' := [(0, .inr (.inl (some 69))), (1, .inl (v1)), (2, .inl (v2))]) (st' := [.inl (57), .inl (48), .inl (M 72 (M 69 19))]) (M' := M) rfl ⟨c0_0, ⟨by decide, by decide⟩, ⟨by decide, by decide⟩, trivial⟩ ?_
        refine am_WcallS (y := 112) (n := 3) (f := 47) (co := 0) (as := [.inl (M 72 (M 69 19)), .inl (48), .inl (57)]) (st' := []) rfl rfl rfl rfl rfl rfl rfl rfl rfl (Nat.zero_le _) rfl (am_CC_le (Nat.le_of_ble_eq_true rfl) (tm_X6_in h)) (fun r M2 q => ?_) (fun _ _ q => q.elim)
        obtain ⟨x1, rfl, h⟩ := q
        obtain ⟨b0, ht, hf⟩ := h
        refine am_Wbr (P := [am_rg x1]) (c := x1 = 0) (t := 106) (f := 50) (st' := []) rfl rfl ⟨b0, trivial⟩ rfl (fun q => ?_) (fun q => ?_)
        · have h := ht q
          refine am_W_sub [0, 2] rfl ?_
          exact tj_X6_readNumber_106 v2 M2 h
        · have h := hf q
          refine am_Wrun 3 (ps := []) (pc' := 55) (lv' := [(0, .inr (.inl (some 69))), (1, .inl (v1)), (2, .inl (v2))]) (st' := [.inl (v2), .inl (M2 69 19)]) (M' := M2) rfl trivial ?_
          obtain ⟨b0, b1, ht, hf⟩ := h
          refine am_Wbr (P := [am_rg (M2 69 19), am_rg v2]) (c := (M2 69 19) = v2) (t := 69) (f := 58) (st' := []) rfl rfl ⟨b0, b1, trivial⟩ rfl (fun q => ?_) (fun q => ?_)
          · have h := ht q
            refine am_W_sub [0, 1, 2] rfl ?_
            exact tj_X6_readNumber_69 (tw_X6_readNumber_10 n) v1 v2 M2 h
          · have h := hf q
            obtain ⟨c0_0, h⟩ := h
            refine am_Wrun 5 (ps := [0 ≤ (v2 : Int) ∧ (v2 : Int) < 60, -128 ≤ (48 : Int) ∧ (48 : Int) ≤ 127]) (pc' := 66) (lv' := [(0, .inr (.inl (some 69))), (1, .inl (v1)), (2, .inl (v2))]) (st' := [.inl (48), .inl (M2 72 v2)]) (M' := M2) rfl ⟨c0_0, ⟨by decide, by decide⟩, trivial⟩ ?_
            obtain ⟨b0, ht, hf⟩ := h
            refine am_Wbr (P := [am_rg (M2 72 v2), am_rg 48]) (c := (M2 72 v2) = 48) (t := 106) (f := 69) (st' := []) rfl rfl ⟨b0, (am_rgd rfl), trivial⟩ rfl (fun q => ?_) (fun q => ?_)
            · have h := ht q
              refine am_W_sub [0, 2] rfl ?_
              exact tj_X6_readNumber_106 v2 M2 h
            · have h := hf q
              refine am_W_sub [0, 1, 2] rfl ?_
              exact tj_X6_readNumber_69 (tw_X6_readNumber_10 n) v1 v2 M2 h
set_option maxRecDepth 20000 in
theorem tm_X6_readNumber {a0 : Int} {M : am_M} {Q : Int → am_M → Prop} (h : wp_X6_readNumber a0 M Q) : am_CC 2 162 [.inr (.inl (some 69)), .inl (a0)] M (am_QI Q) (fun _ _ => False) := by
  refine ⟨Nat.le_of_ble_eq_true rfl, ?_⟩
  show am_W (am_CC 1) dt_X6_readNumber 1 0 none (am_QI Q) (am_qx 162 (fun _ _ => False)) (0, 0, [(0, .inr (.inl (some 69))), (1, .inl (a0))], [], M)
  refine am_Wrun 6 (ps := []) (pc' := 10) (lv' := [(2, .inl (M 69 19)), (0, .inr (.inl (some 69))), (1, .inl (a0))]) (st' := []) (M' := (am_up M 69 20 0)) rfl trivial ?_
  refine am_W_sub [1, 2, 0] rfl ?_
  obtain ⟨n10, h⟩ := h
  exact tw_X6_readNumber_10 n10 a0 (M 69 19) (am_up M 69 20 0) h
abbrev dt_X6_sign : am_D := (tk_X6_sign, 6, 3, some .boolean, tb_hn 163)
def wj_X6_sign_29 (Q : Int → am_M → Prop) (s0 : Int) (M : am_M) : Prop := (am_rg s0) ∧ (s0 = 0 → (s0 = 0 ∨ s0 = 1) ∧ Q s0 (am_up M 69 19 ((M 69 19) + 0))) ∧ (¬ s0 = 0 → (s0 = 0 ∨ s0 = 1) ∧ Q s0 (am_up M 69 19 ((M 69 19) + 1)))
def wj_X6_sign_28 (Q : Int → am_M → Prop) (M : am_M) : Prop := wj_X6_sign_29 Q 0 M
def wp_X6_sign (a0 : Int) (M : am_M) (Q : Int → am_M → Prop) : Prop := (am_rg (M 69 19)) ∧ (am_rg (M 69 4)) ∧ ((M 69 4) ≤ (M 69 19) → wj_X6_sign_28 Q  M) ∧ (¬ (M 69 4) ≤ (M 69 19) → (0 ≤ (M 69 19 : Int) ∧ (M 69 19 : Int) < 60) ∧ ((am_rg (M 72 (M 69 19))) ∧ (am_rg a0) ∧ (¬ (M 72 (M 69 19)) = a0 → wj_X6_sign_28 Q  M) ∧ (¬ (¬ (M 72 (M 69 19)) = a0) → wj_X6_sign_29 Q 1 M)))
set_option maxRecDepth 20000 in
theorem tj_X6_sign_29 {Q : Int → am_M → Prop} {QX : am_X} (s0 : Int) (M : am_M) (h : wj_X6_sign_29 Q s0 M) : am_W (am_CC 0) dt_X6_sign 0 0 none (am_QI Q) QX (0, 29, [(0, .inr (.inl (some 69)))], [.inl (s0)], M) := by
  refine am_Wrun 5 (ps := []) (pc' := 36) (lv' := [(2, .inl (s0)), (0, .inr (.inl (some 69)))]) (st' := [.inl (s0), .inl (M 69 19), .inr (.inl (some 69))]) (M' := M) rfl trivial ?_
  obtain ⟨b0, ht, hf⟩ := h
  refine am_Wbr (P := [am_rg s0]) (c := s0 = 0) (t := 43) (f := 39) (st' := [.inl (M 69 19), .inr (.inl (some 69))]) rfl rfl ⟨b0, trivial⟩ rfl (fun q => ?_) (fun q => ?_)
  · have h := ht q
    refine am_Wrun 4 (ps := []) (pc' := 49) (lv' := [(2, .inl (s0)), (0, .inr (.inl (some 69)))]) (st' := [.inl (s0)]) (M' := (am_up M 69 19 ((M 69 19) + 0))) rfl trivial ?_
    exact am_Wretz rfl rfl h.1 h.2
  · have h := hf q
    refine am_Wrun 5 (ps := []) (pc' := 49) (lv' := [(2, .inl (s0)), (0, .inr (.inl (some 69)))]) (st' := [.inl (s0)]) (M' := (am_up M 69 19 ((M 69 19) + 1))) rfl trivial ?_
    exact am_Wretz rfl rfl h.1 h.2
set_option maxRecDepth 20000 in
theorem tj_X6_sign_28 {Q : Int → am_M → Prop} {QX : am_X} (M : am_M) (h : wj_X6_sign_28 Q M) : am_W (am_CC 0) dt_X6_sign 0 0 none (am_QI Q) QX (0, 28, [(0, .inr (.inl (some 69)))], [], M) := by
  refine am_Wrun 1 (ps := []) (pc' := 29) (lv' := [(0, .inr (.inl (some 69)))]) (st' := [.inl (0)]) (M' := M) rfl trivial ?_
  refine am_W_sub [0] rfl ?_
  exact tj_X6_sign_29 0 M h
set_option maxRecDepth 20000 in
theorem tm_X6_sign {a0 : Int} {M : am_M} {Q : Int → am_M → Prop} (h : wp_X6_sign a0 M Q) : am_CC 1 163 [.inr (.inl (some 69)), .inl (a0)] M (am_QI Q) (fun _ _ => False) := by
  refine ⟨Nat.le_of_ble_eq_true rfl, ?_⟩
  show am_W (am_CC 0) dt_X6_sign 0 0 none (am_QI Q) (am_qx 163 (fun _ _ => False)) (0, 0, [(0, .inr (.inl (some 69))), (1, .inl (a0))], [], M)
  refine am_Wrun 4 (ps := []) (pc' := 8) (lv' := [(0, .inr (.inl (some 69))), (1, .inl (a0))]) (st' := [.inl (M 69 4), .inl (M 69 19)]) (M' := M) rfl trivial ?_
  obtain ⟨b0, b1, ht, hf⟩ := h
  refine am_Wbr (P := [am_rg (M 69 19), am_rg (M 69 4)]) (c := (M 69 4) ≤ (M 69 19)) (t := 28) (f := 11) (st' := []) rfl rfl ⟨b0, b1, trivial⟩ rfl (fun q => ?_) (fun q => ?_)
  · have h := ht q
    refine am_W_sub [0] rfl ?_
    exact tj_X6_sign_28  M h
  · have h := hf q
    obtain ⟨c0_0, h⟩ := h
    refine am_Wrun 6 (ps := [0 ≤ (M 69 19 : Int) ∧ (M 69 19 : Int) < 60]) (pc' := 21) (lv' := [(0, .inr (.inl (some 69))), (1, .inl (a0))]) (st' := [.inl (a0), .inl (M 72 (M 69 19))]) (M' := M) rfl ⟨c0_0, trivial⟩ ?_
    obtain ⟨b0, b1, ht, hf⟩ := h
    refine am_Wbr (P := [am_rg (M 72 (M 69 19)), am_rg a0]) (c := ¬ (M 72 (M 69 19)) = a0) (t := 28) (f := 24) (st' := []) rfl rfl ⟨b0, b1, trivial⟩ rfl (fun q => ?_) (fun q => ?_)
    · have h := ht q
      refine am_W_sub [0] rfl ?_
      exact tj_X6_sign_28  M h
    · have h := hf q
      refine am_Wrun 2 (ps := []) (pc' := 29) (lv' := [(0, .inr (.inl (some 69))), (1, .inl (a0))]) (st' := [.inl (1)]) (M' := M) rfl trivial ?_
      refine am_W_sub [0] rfl ?_
      exact tj_X6_sign_29 1 M h
abbrev dt_X6_readPoint : am_D := (tk_X6_readPoint, 6, 3, some .boolean, tb_hn 161)
def wj_X6_readPoint_104 (Q : Int → am_M → Prop) (v1 : Int) (s0 : Int) (s1 : Int) (M : am_M) : Prop := (0 ≤ (s1 : Int) ∧ (s1 : Int) < 60) ∧ (v1 = 0 ∨ v1 = 1) ∧ ((am_rg v1) ∧ (v1 = 0 → Q 0 (am_up (am_up (am_up M 79 s1 s0) 69 17 (((am_up M 79 s1 s0) 69 17) + 1)) 69 18 v1)) ∧ (¬ v1 = 0 → wp_X6_sign 44 (am_up (am_up (am_up M 79 s1 s0) 69 17 (((am_up M 79 s1 s0) 69 17) + 1)) 69 18 v1) (fun x3 M4 => (am_rg x3) ∧ (x3 = 0 → Q 0 M4) ∧ (¬ x3 = 0 → Q 1 M4))))
def wj_X6_readPoint_79 (Q : Int → am_M → Prop) (v2 : Int) (s0 : Int) (M : am_M) : Prop := (am_rg v2) ∧ (v2 = 0 → wj_X6_readPoint_104 Q s0 (M 69 20) (M 69 17) M) ∧ (¬ v2 = 0 → wj_X6_readPoint_104 Q s0 (-(M 69 20)) (M 69 17) M)
def wj_X6_readPoint_78 (Q : Int → am_M → Prop) (v2 : Int) (M : am_M) : Prop := wj_X6_readPoint_79 Q v2 0 M
def wj_X6_readPoint_61 (Q : Int → am_M → Prop) (v1 : Int) (s0 : Int) (M : am_M) : Prop := (am_rg v1) ∧ (v1 = 0 → wj_X6_readPoint_78 Q s0 M) ∧ (¬ v1 = 0 → wp_X6_readNumber 3 M (fun x5 M6 => (am_rg x5) ∧ (x5 = 0 → wj_X6_readPoint_78 Q s0 M6) ∧ (¬ x5 = 0 → wj_X6_readPoint_79 Q s0 1 M6)))
def wj_X6_readPoint_60 (Q : Int → am_M → Prop) (v1 : Int) (M : am_M) : Prop := wj_X6_readPoint_61 Q v1 0 M
def wj_X6_readPoint_42 (Q : Int → am_M → Prop) (s0 : Int) (M : am_M) : Prop := (am_rg s0) ∧ (s0 = 0 → wj_X6_readPoint_60 Q s0 M) ∧ (¬ s0 = 0 → wp_X6_sign 45 M (fun x7 M8 => (am_rg x7) ∧ (x7 = 0 → wj_X6_readPoint_60 Q s0 M8) ∧ (¬ x7 = 0 → wj_X6_readPoint_61 Q s0 1 M8)))
def wj_X6_readPoint_41 (Q : Int → am_M → Prop) (M : am_M) : Prop := wj_X6_readPoint_42 Q 0 M
def wp_X6_readPoint (M : am_M) (Q : Int → am_M → Prop) : Prop := wp_X6_readNumber 4 (am_up M 69 18 0) (fun x1 M2 => (0 ≤ (M2 69 17 : Int) ∧ (M2 69 17 : Int) < 60) ∧ ((am_rg x1) ∧ (x1 = 0 → wj_X6_readPoint_41 Q  (am_up M2 78 (M2 69 17) (M2 69 20))) ∧ (¬ x1 = 0 → wp_X6_sign 58 (am_up M2 78 (M2 69 17) (M2 69 20)) (fun x9 M10 => (am_rg x9) ∧ (x9 = 0 → wj_X6_readPoint_41 Q  M10) ∧ (¬ x9 = 0 → wj_X6_readPoint_42 Q 1 M10)))))
set_option maxRecDepth 20000 in
theorem tj_X6_readPoint_104 {Q : Int → am_M → Prop} {QX : am_X} (v1 : Int) (s0 : Int) (s1 : Int) (M : am_M) (h : wj_X6_readPoint_104 Q v1 s0 s1 M) : am_W (am_CC 2) dt_X6_readPoint 2 0 none (am_QI Q) QX (0, 104, [(0, .inr (.inl (some 69))), (1, .inl (v1))], [.inl (s0), .inl (s1), .inr (.inl (some 79))], M) := by
  obtain ⟨c0_0, c1_0, h⟩ := h
  refine am_Wrun 11 (ps := [0 ≤ (s1 : Int) ∧ (s1 : Int) < 60, v1 = 0 ∨ v1 = 1]) (pc' := 121) (lv' := [(0, .inr (.inl (some 69))), (1, .inl (v1))]) (st' := [.inl (v1)]) (M' := (am_up (am_up (am_up M 79 s1 s0) 69 17 (((am_up M 79 s1 s0) 69 17) + 1)) 69 18 v1)) rfl ⟨c0_0, c1_0, trivial⟩ ?_
  obtain ⟨b0, ht, hf⟩ := h
  refine am_Wbr (P := [am_rg v1]) (c := v1 = 0) (t := 137) (f := 124) (st' := []) rfl rfl ⟨b0, trivial⟩ rfl (fun q => ?_) (fun q => ?_)
  · have h := ht q
    refine am_Wrun 1 (ps := []) (pc' := 138) (lv' := [(0, .inr (.inl (some 69))), (1, .inl (v1))]) (st' := [.inl (0)]) (M' := (am_up (am_up (am_up M 79 s1 s0) 69 17 (((am_up M 79 s1 s0) 69 17) + 1)) 69 18 v1)) rfl trivial ?_
    exact am_Wretz rfl rfl (Or.inl rfl) h
  · have h := hf q
    refine am_Wrun 2 (ps := [-128 ≤ (44 : Int) ∧ (44 : Int) ≤ 127]) (pc' := 127) (lv' := [(0, .inr (.inl (some 69))), (1, .inl (v1))]) (st' := [.inl (44), .inr (.inl (some 69))]) (M' := (am_up (am_up (am_up M 79 s1 s0) 69 17 (((am_up M 79 s1 s0) 69 17) + 1)) 69 18 v1)) rfl ⟨⟨by decide, by decide⟩, trivial⟩ ?_
    refine am_WcallV (y := 163) (n := 2) (a := 69) (f := 130) (as := [.inl (44)]) (st' := []) rfl rfl rfl rfl rfl rfl rfl rfl rfl rfl (Nat.zero_le _) rfl (am_CC_le (Nat.le_of_ble_eq_true rfl) (tm_X6_sign h)) (fun r M4 q => ?_) (fun _ _ q => q.elim)
    obtain ⟨x3, rfl, h⟩ := q
    obtain ⟨b0, ht, hf⟩ := h
    refine am_Wbr (P := [am_rg x3]) (c := x3 = 0) (t := 137) (f := 133) (st' := []) rfl rfl ⟨b0, trivial⟩ rfl (fun q => ?_) (fun q => ?_)
    · have h := ht q
      refine am_Wrun 1 (ps := []) (pc' := 138) (lv' := [(0, .inr (.inl (some 69))), (1, .inl (v1))]) (st' := [.inl (0)]) (M' := M4) rfl trivial ?_
      exact am_Wretz rfl rfl (Or.inl rfl) h
    · have h := hf q
      refine am_Wrun 2 (ps := []) (pc' := 138) (lv' := [(0, .inr (.inl (some 69))), (1, .inl (v1))]) (st' := [.inl (1)]) (M' := M4) rfl trivial ?_
      exact am_Wretz rfl rfl (Or.inr rfl) h
set_option maxRecDepth 20000 in
theorem tj_X6_readPoint_79 {Q : Int → am_M → Prop} {QX : am_X} (v2 : Int) (s0 : Int) (M : am_M) (h : wj_X6_readPoint_79 Q v2 s0 M) : am_W (am_CC 2) dt_X6_readPoint 2 0 none (am_QI Q) QX (0, 79, [(0, .inr (.inl (some 69))), (2, .inl (v2))], [.inl (s0)], M) := by
  refine am_Wrun 6 (ps := []) (pc' := 89) (lv' := [(1, .inl (s0)), (0, .inr (.inl (some 69))), (2, .inl (v2))]) (st' := [.inl (v2), .inl (M 69 17), .inr (.inl (some 79))]) (M' := M) rfl trivial ?_
  obtain ⟨b0, ht, hf⟩ := h
  refine am_Wbr (P := [am_rg v2]) (c := v2 = 0) (t := 100) (f := 92) (st' := [.inl (M 69 17), .inr (.inl (some 79))]) rfl rfl ⟨b0, trivial⟩ rfl (fun q => ?_) (fun q => ?_)
  · have h := ht q
    refine am_Wrun 2 (ps := []) (pc' := 104) (lv' := [(1, .inl (s0)), (0, .inr (.inl (some 69))), (2, .inl (v2))]) (st' := [.inl (M 69 20), .inl (M 69 17), .inr (.inl (some 79))]) (M' := M) rfl trivial ?_
    refine am_W_sub [1, 0] rfl ?_
    exact tj_X6_readPoint_104 s0 (M 69 20) (M 69 17) M h
  · have h := hf q
    refine am_Wrun 4 (ps := []) (pc' := 104) (lv' := [(1, .inl (s0)), (0, .inr (.inl (some 69))), (2, .inl (v2))]) (st' := [.inl (-(M 69 20)), .inl (M 69 17), .inr (.inl (some 79))]) (M' := M) rfl trivial ?_
    refine am_W_sub [1, 0] rfl ?_
    exact tj_X6_readPoint_104 s0 (-(M 69 20)) (M 69 17) M h
set_option maxRecDepth 20000 in
theorem tj_X6_readPoint_78 {Q : Int → am_M → Prop} {QX : am_X} (v2 : Int) (M : am_M) (h : wj_X6_readPoint_78 Q v2 M) : am_W (am_CC 2) dt_X6_readPoint 2 0 none (am_QI Q) QX (0, 78, [(0, .inr (.inl (some 69))), (2, .inl (v2))], [], M) := by
  refine am_Wrun 1 (ps := []) (pc' := 79) (lv' := [(0, .inr (.inl (some 69))), (2, .inl (v2))]) (st' := [.inl (0)]) (M' := M) rfl trivial ?_
  refine am_W_sub [0, 1] rfl ?_
  exact tj_X6_readPoint_79 v2 0 M h
set_option maxRecDepth 20000 in
theorem tj_X6_readPoint_61 {Q : Int → am_M → Prop} {QX : am_X} (v1 : Int) (s0 : Int) (M : am_M) (h : wj_X6_readPoint_61 Q v1 s0 M) : am_W (am_CC 2) dt_X6_readPoint 2 0 none (am_QI Q) QX (0, 61, [(0, .inr (.inl (some 69))), (1, .inl (v1))], [.inl (s0)], M) := by
  refine am_Wrun 2 (ps := []) (pc' := 63) (lv' := [(2, .inl (s0)), (0, .inr (.inl (some 69))), (1, .inl (v1))]) (st' := [.inl (v1)]) (M' := M) rfl trivial ?_
  obtain ⟨b0, ht, hf⟩ := h
  refine am_Wbr (P := [am_rg v1]) (c := v1 = 0) (t := 78) (f := 66) (st' := []) rfl rfl ⟨b0, trivial⟩ rfl (fun q => ?_) (fun q => ?_)
  · have h := ht q
    refine am_W_sub [1, 0] rfl ?_
    exact tj_X6_readPoint_78 s0 M h
  · have h := hf q
    refine am_Wrun 2 (ps := []) (pc' := 68) (lv' := [(2, .inl (s0)), (0, .inr (.inl (some 69))), (1, .inl (v1))]) (st' := [.inl (3), .inr (.inl (some 69))]) (M' := M) rfl trivial ?_
    refine am_WcallV (y := 162) (n := 2) (a := 69) (f := 71) (as := [.inl (3)]) (st' := []) rfl rfl rfl rfl rfl rfl rfl rfl rfl rfl (Nat.zero_le _) rfl (am_CC_le (Nat.le_of_ble_eq_true rfl) (tm_X6_readNumber h)) (fun r M6 q => ?_) (fun _ _ q => q.elim)
    obtain ⟨x5, rfl, h⟩ := q
    obtain ⟨b0, ht, hf⟩ := h
    refine am_Wbr (P := [am_rg x5]) (c := x5 = 0) (t := 78) (f := 74) (st' := []) rfl rfl ⟨b0, trivial⟩ rfl (fun q => ?_) (fun q => ?_)
    · have h := ht q
      refine am_W_sub [1, 0] rfl ?_
      exact tj_X6_readPoint_78 s0 M6 h
    · have h := hf q
      refine am_Wrun 2 (ps := []) (pc' := 79) (lv' := [(2, .inl (s0)), (0, .inr (.inl (some 69))), (1, .inl (v1))]) (st' := [.inl (1)]) (M' := M6) rfl trivial ?_
      refine am_W_sub [1, 0] rfl ?_
      exact tj_X6_readPoint_79 s0 1 M6 h
set_option maxRecDepth 20000 in
theorem tj_X6_readPoint_60 {Q : Int → am_M → Prop} {QX : am_X} (v1 : Int) (M : am_M) (h : wj_X6_readPoint_60 Q v1 M) : am_W (am_CC 2) dt_X6_readPoint 2 0 none (am_QI Q) QX (0, 60, [(0, .inr (.inl (some 69))), (1, .inl (v1))], [], M) := by
  refine am_Wrun 1 (ps := []) (pc' := 61) (lv' := [(0, .inr (.inl (some 69))), (1, .inl (v1))]) (st' := [.inl (0)]) (M' := M) rfl trivial ?_
  refine am_W_sub [0, 1] rfl ?_
  exact tj_X6_readPoint_61 v1 0 M h
set_option maxRecDepth 20000 in
theorem tj_X6_readPoint_42 {Q : Int → am_M → Prop} {QX : am_X} (s0 : Int) (M : am_M) (h : wj_X6_readPoint_42 Q s0 M) : am_W (am_CC 2) dt_X6_readPoint 2 0 none (am_QI Q) QX (0, 42, [(0, .inr (.inl (some 69)))], [.inl (s0)], M) := by
  refine am_Wrun 2 (ps := []) (pc' := 44) (lv' := [(1, .inl (s0)), (0, .inr (.inl (some 69)))]) (st' := [.inl (s0)]) (M' := M) rfl trivial ?_
  obtain ⟨b0, ht, hf⟩ := h
  refine am_Wbr (P := [am_rg s0]) (c := s0 = 0) (t := 60) (f := 47) (st' := []) rfl rfl ⟨b0, trivial⟩ rfl (fun q => ?_) (fun q => ?_)
  · have h := ht q
    refine am_W_sub [1, 0] rfl ?_
    exact tj_X6_readPoint_60 s0 M h
  · have h := hf q
    refine am_Wrun 2 (ps := [-128 ≤ (45 : Int) ∧ (45 : Int) ≤ 127]) (pc' := 50) (lv' := [(1, .inl (s0)), (0, .inr (.inl (some 69)))]) (st' := [.inl (45), .inr (.inl (some 69))]) (M' := M) rfl ⟨⟨by decide, by decide⟩, trivial⟩ ?_
    refine am_WcallV (y := 163) (n := 2) (a := 69) (f := 53) (as := [.inl (45)]) (st' := []) rfl rfl rfl rfl rfl rfl rfl rfl rfl rfl (Nat.zero_le _) rfl (am_CC_le (Nat.le_of_ble_eq_true rfl) (tm_X6_sign h)) (fun r M8 q => ?_) (fun _ _ q => q.elim)
    obtain ⟨x7, rfl, h⟩ := q
    obtain ⟨b0, ht, hf⟩ := h
    refine am_Wbr (P := [am_rg x7]) (c := x7 = 0) (t := 60) (f := 56) (st' := []) rfl rfl ⟨b0, trivial⟩ rfl (fun q => ?_) (fun q => ?_)
    · have h := ht q
      refine am_W_sub [1, 0] rfl ?_
      exact tj_X6_readPoint_60 s0 M8 h
    · have h := hf q
      refine am_Wrun 2 (ps := []) (pc' := 61) (lv' := [(1, .inl (s0)), (0, .inr (.inl (some 69)))]) (st' := [.inl (1)]) (M' := M8) rfl trivial ?_
      refine am_W_sub [1, 0] rfl ?_
      exact tj_X6_readPoint_61 s0 1 M8 h
set_option maxRecDepth 20000 in
theorem tj_X6_readPoint_41 {Q : Int → am_M → Prop} {QX : am_X} (M : am_M) (h : wj_X6_readPoint_41 Q M) : am_W (am_CC 2) dt_X6_readPoint 2 0 none (am_QI Q) QX (0, 41, [(0, .inr (.inl (some 69)))], [], M) := by
  refine am_Wrun 1 (ps := []) (pc' := 42) (lv' := [(0, .inr (.inl (some 69)))]) (st' := [.inl (0)]) (M' := M) rfl trivial ?_
  refine am_W_sub [0] rfl ?_
  exact tj_X6_readPoint_42 0 M h
set_option maxRecDepth 20000 in
theorem tm_X6_readPoint {M : am_M} {Q : Int → am_M → Prop} (h : wp_X6_readPoint M Q) : am_CC 3 161 [.inr (.inl (some 69))] M (am_QI Q) (fun _ _ => False) := by
  refine ⟨Nat.le_of_ble_eq_true rfl, ?_⟩
  show am_W (am_CC 2) dt_X6_readPoint 2 0 none (am_QI Q) (am_qx 161 (fun _ _ => False)) (0, 0, [(0, .inr (.inl (some 69)))], [], M)
  refine am_Wrun 5 (ps := [0 = 0 ∨ 0 = 1]) (pc' := 7) (lv' := [(0, .inr (.inl (some 69)))]) (st' := [.inl (4), .inr (.inl (some 69))]) (M' := (am_up M 69 18 0)) rfl ⟨(Or.inl rfl), trivial⟩ ?_
  refine am_WcallV (y := 162) (n := 2) (a := 69) (f := 10) (as := [.inl (4)]) (st' := []) rfl rfl rfl rfl rfl rfl rfl rfl rfl rfl (Nat.zero_le _) rfl (am_CC_le (Nat.le_of_ble_eq_true rfl) (tm_X6_readNumber h)) (fun r M2 q => ?_) (fun _ _ q => q.elim)
  obtain ⟨x1, rfl, h⟩ := q
  obtain ⟨c0_0, h⟩ := h
  refine am_Wrun 9 (ps := [0 ≤ (M2 69 17 : Int) ∧ (M2 69 17 : Int) < 60]) (pc' := 25) (lv' := [(1, .inl (x1)), (0, .inr (.inl (some 69)))]) (st' := [.inl (x1)]) (M' := (am_up M2 78 (M2 69 17) (M2 69 20))) rfl ⟨c0_0, trivial⟩ ?_
  obtain ⟨b0, ht, hf⟩ := h
  refine am_Wbr (P := [am_rg x1]) (c := x1 = 0) (t := 41) (f := 28) (st' := []) rfl rfl ⟨b0, trivial⟩ rfl (fun q => ?_) (fun q => ?_)
  · have h := ht q
    refine am_W_sub [1] rfl ?_
    exact tj_X6_readPoint_41  (am_up M2 78 (M2 69 17) (M2 69 20)) h
  · have h := hf q
    refine am_Wrun 2 (ps := [-128 ≤ (58 : Int) ∧ (58 : Int) ≤ 127]) (pc' := 31) (lv' := [(1, .inl (x1)), (0, .inr (.inl (some 69)))]) (st' := [.inl (58), .inr (.inl (some 69))]) (M' := (am_up M2 78 (M2 69 17) (M2 69 20))) rfl ⟨⟨by decide, by decide⟩, trivial⟩ ?_
    refine am_WcallV (y := 163) (n := 2) (a := 69) (f := 34) (as := [.inl (58)]) (st' := []) rfl rfl rfl rfl rfl rfl rfl rfl rfl rfl (Nat.zero_le _) rfl (am_CC_le (Nat.le_of_ble_eq_true rfl) (tm_X6_sign h)) (fun r M10 q => ?_) (fun _ _ q => q.elim)
    obtain ⟨x9, rfl, h⟩ := q
    obtain ⟨b0, ht, hf⟩ := h
    refine am_Wbr (P := [am_rg x9]) (c := x9 = 0) (t := 41) (f := 37) (st' := []) rfl rfl ⟨b0, trivial⟩ rfl (fun q => ?_) (fun q => ?_)
    · have h := ht q
      refine am_W_sub [1] rfl ?_
      exact tj_X6_readPoint_41  M10 h
    · have h := hf q
      refine am_Wrun 2 (ps := []) (pc' := 42) (lv' := [(1, .inl (x1)), (0, .inr (.inl (some 69)))]) (st' := [.inl (1)]) (M' := M10) rfl trivial ?_
      refine am_W_sub [1] rfl ?_
      exact tj_X6_readPoint_42 1 M10 h
abbrev dt_X6_reads : am_D := (tk_X6_reads, 6, 2, some .int, tb_hn 160)
def wl_X6_reads_12 (Q : Int → am_M → Prop) : Nat → Int → am_M → Prop
  | 0, _, _ => False
  | n + 1, v1, M => (am_rg v1) ∧ (v1 = 0 → Q (M 69 19) M) ∧ (¬ v1 = 0 → (am_rg (M 69 17)) ∧ (60 ≤ (M 69 17) → Q (M 69 19) M) ∧ (¬ 60 ≤ (M 69 17) → wp_X6_readPoint M (fun x1 M2 => wl_X6_reads_12 Q n x1 M2)))
def wp_X6_reads (M : am_M) (Q : Int → am_M → Prop) : Prop := ∃ e12, wl_X6_reads_12 Q e12 1 (am_up (am_up M 69 19 0) 69 17 0)
set_option maxRecDepth 20000 in
theorem tw_X6_reads_12 {Q : Int → am_M → Prop} {QX : am_X} : ∀ (n : Nat) (v1 : Int) (M : am_M), wl_X6_reads_12 Q n v1 M → am_W (am_CC 3) dt_X6_reads 3 0 none (am_QI Q) QX (0, 12, [(0, .inr (.inl (some 69))), (1, .inl (v1))], [], M)
  | 0, _, _, h => h.elim
  | n + 1, v1, M, h => by
    refine am_Wrun 1 (ps := []) (pc' := 13) (lv' := [(0, .inr (.inl (some 69))), (1, .inl (v1))]) (st' := [.inl (v1)]) (M' := M) rfl trivial ?_
    obtain ⟨b0, ht, hf⟩ := h
    refine am_Wbr (P := [am_rg v1]) (c := v1 = 0) (t := 33) (f := 16) (st' := []) rfl rfl ⟨b0, trivial⟩ rfl (fun q => ?_) (fun q => ?_)
    · have h := ht q
      refine am_Wrun 2 (ps := []) (pc' := 37) (lv' := [(0, .inr (.inl (some 69))), (1, .inl (v1))]) (st' := [.inl (M 69 19)]) (M' := M) rfl trivial ?_
      exact am_Wreti rfl rfl h
    · have h := hf q
      refine am_Wrun 3 (ps := [-128 ≤ (60 : Int) ∧ (60 : Int) ≤ 127]) (pc' := 22) (lv' := [(0, .inr (.inl (some 69))), (1, .inl (v1))]) (st' := [.inl (60), .inl (M 69 17)]) (M' := M) rfl ⟨⟨by decide, by decide⟩, trivial⟩ ?_
      obtain ⟨b0, ht, hf⟩ := h
      refine am_Wbr (P := [am_rg (M 69 17), am_rg 60]) (c := 60 ≤ (M 69 17)) (t := 33) (f := 25) (st' := []) rfl rfl ⟨b0, (am_rgd rfl), trivial⟩ rfl (fun q => ?_) (fun q => ?_)
      · have h := ht q
        refine am_Wrun 2 (ps := []) (pc' := 37) (lv' := [(0, .inr (.inl (some 69))), (1, .inl (v1))]) (st' := [.inl (M 69 19)]) (M' := M) rfl trivial ?_
        exact am_Wreti rfl rfl h
      · have h := hf q
        refine am_Wrun 1 (ps := []) (pc' := 26) (lv' := [(0, .inr (.inl (some 69))), (1, .inl (v1))]) (st' := [.inr (.inl (some 69))]) (M' := M) rfl trivial ?_
        refine am_WcallV (y := 161) (n := 1) (a := 69) (f := 29) (as := []) (st' := []) rfl rfl rfl rfl rfl rfl rfl rfl rfl rfl (Nat.zero_le _) rfl (am_CC_le (Nat.le_of_ble_eq_true rfl) (tm_X6_readPoint h)) (fun r M2 q => ?_) (fun _ _ q => q.elim)
        obtain ⟨x1, rfl, h⟩ := q
        refine am_Wrun 2 (ps := []) (pc' := 12) (lv' := [(1, .inl (x1)), (0, .inr (.inl (some 69)))]) (st' := []) (M' := M2) rfl trivial ?_
        refine am_W_sub [1, 0] rfl ?_
        exact tw_X6_reads_12 n x1 M2 h
set_option maxRecDepth 20000 in
theorem tm_X6_reads {M : am_M} {Q : Int → am_M → Prop} (h : wp_X6_reads M Q) : am_CC 4 160 [.inr (.inl (some 69))] M (am_QI Q) (fun _ _ => False) := by
  refine ⟨Nat.le_of_ble_eq_true rfl, ?_⟩
  show am_W (am_CC 3) dt_X6_reads 3 0 none (am_QI Q) (am_qx 160 (fun _ _ => False)) (0, 0, [(0, .inr (.inl (some 69)))], [], M)
  refine am_Wrun 8 (ps := []) (pc' := 12) (lv' := [(1, .inl (1)), (0, .inr (.inl (some 69)))]) (st' := []) (M' := (am_up (am_up M 69 19 0) 69 17 0)) rfl trivial ?_
  refine am_W_sub [1, 0] rfl ?_
  obtain ⟨n12, h⟩ := h
  exact tw_X6_reads_12 n12 1 (am_up (am_up M 69 19 0) 69 17 0) h
abbrev dt_X6_firstError : am_D := (tk_X6_firstError, 6, 1, some .int, tb_hn 159)
def wp_X6_firstError (M : am_M) (Q : Int → am_M → Prop) : Prop := wp_X6_reads (am_up M 69 5 0) (fun x1 M2 => Q x1 M2)
set_option maxRecDepth 20000 in
theorem tm_X6_firstError {M : am_M} {Q : Int → am_M → Prop} (h : wp_X6_firstError M Q) : am_CC 5 159 [.inr (.inl (some 69))] M (am_QI Q) (fun _ _ => False) := by
  refine ⟨Nat.le_of_ble_eq_true rfl, ?_⟩
  show am_W (am_CC 4) dt_X6_firstError 4 0 none (am_QI Q) (am_qx 159 (fun _ _ => False)) (0, 0, [(0, .inr (.inl (some 69)))], [], M)
  refine am_Wrun 4 (ps := []) (pc' := 6) (lv' := [(0, .inr (.inl (some 69)))]) (st' := [.inr (.inl (some 69))]) (M' := (am_up M 69 5 0)) rfl trivial ?_
  refine am_WcallV (y := 160) (n := 1) (a := 69) (f := 9) (as := []) (st' := []) rfl rfl rfl rfl rfl rfl rfl rfl rfl rfl (Nat.zero_le _) rfl (am_CC_le (Nat.le_of_ble_eq_true rfl) (tm_X6_reads h)) (fun r M2 q => ?_) (fun _ _ q => q.elim)
  obtain ⟨x1, rfl, h⟩ := q
  exact am_Wreti rfl rfl h
abbrev dt_X3_isRow : am_D := (tk_X3_isRow, 3, 3, some .boolean, tb_hn 98)
def wj_X3_isRow_34 (Q : Int → am_M → Prop) (v1 : Int) (M : am_M) : Prop := (am_rg v1) ∧ (v1 < 8 → Q 0 M) ∧ (¬ v1 < 8 → Q 1 M)
def wl_X3_isRow_4 (Q : Int → am_M → Prop) : Nat → Int → Int → am_M → Prop
  | 0, _, _, _ => False
  | n + 1, v1, v2, M => (am_rg v2) ∧ (am_rg (M 64 1)) ∧ ((M 64 1) ≤ v2 → wj_X3_isRow_34 Q v1 M) ∧ (¬ (M 64 1) ≤ v2 → (am_rg v1) ∧ (v1 = (-1) → wj_X3_isRow_34 Q v1 M) ∧ (¬ v1 = (-1) → (0 ≤ (v2 : Int) ∧ (v2 : Int) < 60) ∧ (wp_X3_placeAfter v1 (M 65 v2) M (fun x1 M2 => wl_X3_isRow_4 Q n x1 (v2 + 1) M2))))
def wp_X3_isRow (M : am_M) (Q : Int → am_M → Prop) : Prop := ∃ e4, wl_X3_isRow_4 Q e4 0 0 M
set_option maxRecDepth 20000 in
theorem tj_X3_isRow_34 {Q : Int → am_M → Prop} {QX : am_X} (v1 : Int) (M : am_M) (h : wj_X3_isRow_34 Q v1 M) : am_W (am_CC 3) dt_X3_isRow 3 0 none (am_QI Q) QX (0, 34, [(1, .inl (v1))], [], M) := by
  refine am_Wrun 2 (ps := [-128 ≤ (8 : Int) ∧ (8 : Int) ≤ 127]) (pc' := 37) (lv' := [(1, .inl (v1))]) (st' := [.inl (8), .inl (v1)]) (M' := M) rfl ⟨⟨by decide, by decide⟩, trivial⟩ ?_
  obtain ⟨b0, ht, hf⟩ := h
  refine am_Wbr (P := [am_rg v1, am_rg 8]) (c := v1 < 8) (t := 44) (f := 40) (st' := []) rfl rfl ⟨b0, (am_rgd rfl), trivial⟩ rfl (fun q => ?_) (fun q => ?_)
  · have h := ht q
    refine am_Wrun 1 (ps := []) (pc' := 45) (lv' := [(1, .inl (v1))]) (st' := [.inl (0)]) (M' := M) rfl trivial ?_
    exact am_Wretz rfl rfl (Or.inl rfl) h
  · have h := hf q
    refine am_Wrun 2 (ps := []) (pc' := 45) (lv' := [(1, .inl (v1))]) (st' := [.inl (1)]) (M' := M) rfl trivial ?_
    exact am_Wretz rfl rfl (Or.inr rfl) h
set_option maxRecDepth 20000 in
theorem tw_X3_isRow_4 {Q : Int → am_M → Prop} {QX : am_X} : ∀ (n : Nat) (v1 : Int) (v2 : Int) (M : am_M), wl_X3_isRow_4 Q n v1 v2 M → am_W (am_CC 3) dt_X3_isRow 3 0 none (am_QI Q) QX (0, 4, [(0, .inr (.inl (some 64))), (1, .inl (v1)), (2, .inl (v2))], [], M)
  | 0, _, _, _, h => h.elim
  | n + 1, v1, v2, M, h => by
    refine am_Wrun 3 (ps := []) (pc' := 9) (lv' := [(0, .inr (.inl (some 64))), (1, .inl (v1)), (2, .inl (v2))]) (st' := [.inl (M 64 1), .inl (v2)]) (M' := M) rfl trivial ?_
    obtain ⟨b0, b1, ht, hf⟩ := h
    refine am_Wbr (P := [am_rg v2, am_rg (M 64 1)]) (c := (M 64 1) ≤ v2) (t := 34) (f := 12) (st' := []) rfl rfl ⟨b0, b1, trivial⟩ rfl (fun q => ?_) (fun q => ?_)
    · have h := ht q
      refine am_W_sub [1] rfl ?_
      exact tj_X3_isRow_34 v1 M h
    · have h := hf q
      refine am_Wrun 2 (ps := []) (pc' := 14) (lv' := [(0, .inr (.inl (some 64))), (1, .inl (v1)), (2, .inl (v2))]) (st' := [.inl ((-1)), .inl (v1)]) (M' := M) rfl trivial ?_
      obtain ⟨b0, ht, hf⟩ := h
      refine am_Wbr (P := [am_rg v1, am_rg (-1)]) (c := v1 = (-1)) (t := 34) (f := 17) (st' := []) rfl rfl ⟨b0, (am_rgd rfl), trivial⟩ rfl (fun q => ?_) (fun q => ?_)
      · have h := ht q
        refine am_W_sub [1] rfl ?_
        exact tj_X3_isRow_34 v1 M h
      · have h := hf q
        obtain ⟨c0_0, h⟩ := h
        refine am_Wrun 5 (ps := [0 ≤ (v2 : Int) ∧ (v2 : Int) < 60]) (pc' := 24) (lv' := [(0, .inr (.inl (some 64))), (1, .inl (v1)), (2, .inl (v2))]) (st' := [.inl (M 65 v2), .inl (v1)]) (M' := M) rfl ⟨c0_0, trivial⟩ ?_
        refine am_WcallS (y := 26) (n := 2) (f := 27) (co := 0) (as := [.inl (v1), .inl (M 65 v2)]) (st' := []) rfl rfl rfl rfl rfl rfl rfl rfl rfl (Nat.zero_le _) rfl (am_CC_le (Nat.le_of_ble_eq_true rfl) (tm_X3_placeAfter h)) (fun r M2 q => ?_) (fun _ _ q => q.elim)
        obtain ⟨x1, rfl, h⟩ := q
        refine am_Wrun 3 (ps := []) (pc' := 4) (lv' := [(2, .inl (v2 + 1)), (1, .inl (x1)), (0, .inr (.inl (some 64)))]) (st' := []) (M' := M2) rfl trivial ?_
        refine am_W_sub [2, 1, 0] rfl ?_
        exact tw_X3_isRow_4 n x1 (v2 + 1) M2 h
set_option maxRecDepth 20000 in
theorem tm_X3_isRow {M : am_M} {Q : Int → am_M → Prop} (h : wp_X3_isRow M Q) : am_CC 4 98 [.inr (.inl (some 64))] M (am_QI Q) (fun _ _ => False) := by
  refine ⟨Nat.le_of_ble_eq_true rfl, ?_⟩
  show am_W (am_CC 3) dt_X3_isRow 3 0 none (am_QI Q) (am_qx 98 (fun _ _ => False)) (0, 0, [(0, .inr (.inl (some 64)))], [], M)
  refine am_Wrun 4 (ps := []) (pc' := 4) (lv' := [(2, .inl (0)), (1, .inl (0)), (0, .inr (.inl (some 64)))]) (st' := []) (M' := M) rfl trivial ?_
  refine am_W_sub [2, 1, 0] rfl ?_
  obtain ⟨n4, h⟩ := h
  exact tw_X3_isRow_4 n4 0 0 M h
abbrev dt_X3_takePoint : am_D := (tk_X3_takePoint, 3, 3, none, tb_hn 100)
def wp_X3_takePoint (a0 : Int) (a1 : Int) (M : am_M) (Q : am_M → Prop) : Prop := (am_rg (M 64 4)) ∧ ((M 64 4) < 0 → Q M) ∧ (¬ (M 64 4) < 0 → (am_rg (M 64 4)) ∧ (60 ≤ (M 64 4) → Q M) ∧ (¬ 60 ≤ (M 64 4) → (0 ≤ (M 64 4 : Int) ∧ (M 64 4 : Int) < 60) ∧ (0 ≤ ((am_up M 66 (M 64 4) a0) 64 4 : Int) ∧ ((am_up M 66 (M 64 4) a0) 64 4 : Int) < 60) ∧ (Q (am_up (am_up (am_up M 66 (M 64 4) a0) 67 ((am_up M 66 (M 64 4) a0) 64 4) a1) 64 4 (((am_up (am_up M 66 (M 64 4) a0) 67 ((am_up M 66 (M 64 4) a0) 64 4) a1) 64 4) + 1)))))
set_option maxRecDepth 20000 in
theorem tm_X3_takePoint {a0 a1 : Int} {M : am_M} {Q : am_M → Prop} (h : wp_X3_takePoint a0 a1 M Q) : am_CC 1 100 [.inr (.inl (some 64)), .inl (a0), .inl (a1)] M (am_QV Q) (fun _ _ => False) := by
  refine ⟨Nat.le_of_ble_eq_true rfl, ?_⟩
  show am_W (am_CC 0) dt_X3_takePoint 0 0 none (am_QV Q) (am_qx 100 (fun _ _ => False)) (0, 0, [(0, .inr (.inl (some 64))), (1, .inl (a0)), (2, .inl (a1))], [], M)
  refine am_Wrun 2 (ps := []) (pc' := 4) (lv' := [(0, .inr (.inl (some 64))), (1, .inl (a0)), (2, .inl (a1))]) (st' := [.inl (M 64 4)]) (M' := M) rfl trivial ?_
  obtain ⟨b0, ht, hf⟩ := h
  refine am_Wbr (P := [am_rg (M 64 4)]) (c := (M 64 4) < 0) (t := 46) (f := 7) (st' := []) rfl rfl ⟨b0, trivial⟩ rfl (fun q => ?_) (fun q => ?_)
  · have h := ht q
    exact am_Wretv rfl rfl h
  · have h := hf q
    refine am_Wrun 3 (ps := [-128 ≤ (60 : Int) ∧ (60 : Int) ≤ 127]) (pc' := 13) (lv' := [(0, .inr (.inl (some 64))), (1, .inl (a0)), (2, .inl (a1))]) (st' := [.inl (60), .inl (M 64 4)]) (M' := M) rfl ⟨⟨by decide, by decide⟩, trivial⟩ ?_
    obtain ⟨b0, ht, hf⟩ := h
    refine am_Wbr (P := [am_rg (M 64 4), am_rg 60]) (c := 60 ≤ (M 64 4)) (t := 46) (f := 16) (st' := []) rfl rfl ⟨b0, (am_rgd rfl), trivial⟩ rfl (fun q => ?_) (fun q => ?_)
    · have h := ht q
      exact am_Wretv rfl rfl h
    · have h := hf q
      obtain ⟨c0_0, c1_0, h⟩ := h
      refine am_Wrun 18 (ps := [0 ≤ (M 64 4 : Int) ∧ (M 64 4 : Int) < 60, 0 ≤ ((am_up M 66 (M 64 4) a0) 64 4 : Int) ∧ ((am_up M 66 (M 64 4) a0) 64 4 : Int) < 60]) (pc' := 46) (lv' := [(0, .inr (.inl (some 64))), (1, .inl (a0)), (2, .inl (a1))]) (st' := []) (M' := (am_up (am_up (am_up M 66 (M 64 4) a0) 67 ((am_up M 66 (M 64 4) a0) 64 4) a1) 64 4 (((am_up (am_up M 66 (M 64 4) a0) 67 ((am_up M 66 (M 64 4) a0) 64 4) a1) 64 4) + 1))) rfl ⟨c0_0, c1_0, trivial⟩ ?_
      exact am_Wretv rfl rfl h
abbrev dt_X3_readRow : am_D := (tk_X3_readRow, 3, 6, none, tb_hn 99)
def wl_X3_readRow_14 (Q : am_M → Prop) : Nat → Int → Int → Int → Int → am_M → Prop
  | 0, _, _, _, _, _ => False
  | n + 1, v1, v2, v3, v4, M => (am_rg v4) ∧ (am_rg (M 64 1)) ∧ ((M 64 1) ≤ v4 → wp_X3_takePoint v1 (v3 * v2) M (fun M1 => Q M1)) ∧ (¬ (M 64 1) ≤ v4 → (0 ≤ (v4 : Int) ∧ (v4 : Int) < 60) ∧ ((am_rg (M 65 v4)) ∧ (¬ (M 65 v4) = 58 → (am_rg (M 65 v4)) ∧ (¬ (M 65 v4) = 45 → (am_rg (M 65 v4)) ∧ (¬ (M 65 v4) = 44 → wl_X3_readRow_14 Q n v1 (((10 * v2) + (M 65 v4)) - 48) v3 (v4 + 1) M) ∧ (¬ (¬ (M 65 v4) = 44) → wp_X3_takePoint v1 (v3 * v2) M (fun M2 => wl_X3_readRow_14 Q n v1 0 v3 (v4 + 1) M2))) ∧ (¬ (¬ (M 65 v4) = 45) → wl_X3_readRow_14 Q n v1 v2 (-1) (v4 + 1) M)) ∧ (¬ (¬ (M 65 v4) = 58) → wl_X3_readRow_14 Q n v2 0 1 (v4 + 1) M)))
def wp_X3_readRow (M : am_M) (Q : am_M → Prop) : Prop := ∃ e14, wl_X3_readRow_14 Q e14 0 0 1 0 (am_up M 64 4 0)
set_option maxRecDepth 20000 in
theorem tw_X3_readRow_14 {Q : am_M → Prop} {QX : am_X} : ∀ (n : Nat) (v1 : Int) (v2 : Int) (v3 : Int) (v4 : Int) (M : am_M), wl_X3_readRow_14 Q n v1 v2 v3 v4 M → am_W (am_CC 1) dt_X3_readRow 1 0 none (am_QV Q) QX (0, 14, [(0, .inr (.inl (some 64))), (1, .inl (v1)), (2, .inl (v2)), (3, .inl (v3)), (4, .inl (v4))], [], M)
  | 0, _, _, _, _, _, h => h.elim
  | n + 1, v1, v2, v3, v4, M, h => by
    refine am_Wrun 3 (ps := []) (pc' := 20) (lv' := [(0, .inr (.inl (some 64))), (1, .inl (v1)), (2, .inl (v2)), (3, .inl (v3)), (4, .inl (v4))]) (st' := [.inl (M 64 1), .inl (v4)]) (M' := M) rfl trivial ?_
    obtain ⟨b0, b1, ht, hf⟩ := h
    refine am_Wbr (P := [am_rg v4, am_rg (M 64 1)]) (c := (M 64 1) ≤ v4) (t := 97) (f := 23) (st' := []) rfl rfl ⟨b0, b1, trivial⟩ rfl (fun q => ?_) (fun q => ?_)
    · have h := ht q
      refine am_Wrun 5 (ps := []) (pc' := 102) (lv' := [(0, .inr (.inl (some 64))), (1, .inl (v1)), (2, .inl (v2)), (3, .inl (v3)), (4, .inl (v4))]) (st' := [.inl (v3 * v2), .inl (v1), .inr (.inl (some 64))]) (M' := M) rfl trivial ?_
      refine am_WcallV (y := 100) (n := 3) (a := 64) (f := 105) (as := [.inl (v1), .inl (v3 * v2)]) (st' := []) rfl rfl rfl rfl rfl rfl rfl rfl rfl rfl (Nat.zero_le _) rfl (am_CC_le (Nat.le_of_ble_eq_true rfl) (tm_X3_takePoint h)) (fun r M1 q => ?_) (fun _ _ q => q.elim)
      obtain ⟨rfl, h⟩ := q
      exact am_Wretv rfl rfl h
    · have h := hf q
      obtain ⟨c0_0, h⟩ := h
      refine am_Wrun 7 (ps := [0 ≤ (v4 : Int) ∧ (v4 : Int) < 60, -128 ≤ (58 : Int) ∧ (58 : Int) ≤ 127]) (pc' := 36) (lv' := [(5, .inl (M 65 v4)), (0, .inr (.inl (some 64))), (1, .inl (v1)), (2, .inl (v2)), (3, .inl (v3)), (4, .inl (v4))]) (st' := [.inl (58), .inl (M 65 v4)]) (M' := M) rfl ⟨c0_0, ⟨by decide, by decide⟩, trivial⟩ ?_
      obtain ⟨b0, ht, hf⟩ := h
      refine am_Wbr (P := [am_rg (M 65 v4), am_rg 58]) (c := ¬ (M 65 v4) = 58) (t := 48) (f := 39) (st' := []) rfl rfl ⟨b0, (am_rgd rfl), trivial⟩ rfl (fun q => ?_) (fun q => ?_)
      · have h := ht q
        refine am_Wrun 2 (ps := [-128 ≤ (45 : Int) ∧ (45 : Int) ≤ 127]) (pc' := 52) (lv' := [(5, .inl (M 65 v4)), (0, .inr (.inl (some 64))), (1, .inl (v1)), (2, .inl (v2)), (3, .inl (v3)), (4, .inl (v4))]) (st' := [.inl (45), .inl (M 65 v4)]) (M' := M) rfl ⟨⟨by decide, by decide⟩, trivial⟩ ?_
        obtain ⟨b0, ht, hf⟩ := h
        refine am_Wbr (P := [am_rg (M 65 v4), am_rg 45]) (c := ¬ (M 65 v4) = 45) (t := 60) (f := 55) (st' := []) rfl rfl ⟨b0, (am_rgd rfl), trivial⟩ rfl (fun q => ?_) (fun q => ?_)
        · have h := ht q
          refine am_Wrun 2 (ps := [-128 ≤ (44 : Int) ∧ (44 : Int) ≤ 127]) (pc' := 64) (lv' := [(5, .inl (M 65 v4)), (0, .inr (.inl (some 64))), (1, .inl (v1)), (2, .inl (v2)), (3, .inl (v3)), (4, .inl (v4))]) (st' := [.inl (44), .inl (M 65 v4)]) (M' := M) rfl ⟨⟨by decide, by decide⟩, trivial⟩ ?_
          obtain ⟨b0, ht, hf⟩ := h
          refine am_Wbr (P := [am_rg (M 65 v4), am_rg 44]) (c := ¬ (M 65 v4) = 44) (t := 80) (f := 67) (st' := []) rfl rfl ⟨b0, (am_rgd rfl), trivial⟩ rfl (fun q => ?_) (fun q => ?_)
          · have h := ht q
            refine am_Wrun 10 (ps := [-128 ≤ (10 : Int) ∧ (10 : Int) ≤ 127, -128 ≤ (48 : Int) ∧ (48 : Int) ≤ 127]) (pc' := 14) (lv' := [(4, .inl (v4 + 1)), (2, .inl (((10 * v2) + (M 65 v4)) - 48)), (5, .inl (M 65 v4)), (0, .inr (.inl (some 64))), (1, .inl (v1)), (3, .inl (v3))]) (st' := []) (M' := M) rfl ⟨⟨by decide, by decide⟩, ⟨by decide, by decide⟩, trivial⟩ ?_
            refine am_W_sub [3, 4, 1, 5, 0] rfl ?_
            exact tw_X3_readRow_14 n v1 (((10 * v2) + (M 65 v4)) - 48) v3 (v4 + 1) M h
          · have h := hf q
            refine am_Wrun 5 (ps := []) (pc' := 72) (lv' := [(5, .inl (M 65 v4)), (0, .inr (.inl (some 64))), (1, .inl (v1)), (2, .inl (v2)), (3, .inl (v3)), (4, .inl (v4))]) (st' := [.inl (v3 * v2), .inl (v1), .inr (.inl (some 64))]) (M' := M) rfl trivial ?_
            refine am_WcallV (y := 100) (n := 3) (a := 64) (f := 75) (as := [.inl (v1), .inl (v3 * v2)]) (st' := []) rfl rfl rfl rfl rfl rfl rfl rfl rfl rfl (Nat.zero_le _) rfl (am_CC_le (Nat.le_of_ble_eq_true rfl) (tm_X3_takePoint h)) (fun r M2 q => ?_) (fun _ _ q => q.elim)
            obtain ⟨rfl, h⟩ := q
            refine am_Wrun 5 (ps := []) (pc' := 14) (lv' := [(4, .inl (v4 + 1)), (2, .inl (0)), (5, .inl (M 65 v4)), (0, .inr (.inl (some 64))), (1, .inl (v1)), (3, .inl (v3))]) (st' := []) (M' := M2) rfl trivial ?_
            refine am_W_sub [3, 4, 1, 5, 0] rfl ?_
            exact tw_X3_readRow_14 n v1 0 v3 (v4 + 1) M2 h
        · have h := hf q
          refine am_Wrun 5 (ps := []) (pc' := 14) (lv' := [(4, .inl (v4 + 1)), (3, .inl ((-1))), (5, .inl (M 65 v4)), (0, .inr (.inl (some 64))), (1, .inl (v1)), (2, .inl (v2))]) (st' := []) (M' := M) rfl trivial ?_
          refine am_W_sub [3, 4, 5, 1, 0] rfl ?_
          exact tw_X3_readRow_14 n v1 v2 (-1) (v4 + 1) M h
      · have h := hf q
        refine am_Wrun 9 (ps := []) (pc' := 14) (lv' := [(4, .inl (v4 + 1)), (3, .inl (1)), (2, .inl (0)), (1, .inl (v2)), (5, .inl (M 65 v4)), (0, .inr (.inl (some 64)))]) (st' := []) (M' := M) rfl trivial ?_
        refine am_W_sub [5, 3, 2, 1, 0] rfl ?_
        exact tw_X3_readRow_14 n v2 0 1 (v4 + 1) M h
set_option maxRecDepth 20000 in
theorem tm_X3_readRow {M : am_M} {Q : am_M → Prop} (h : wp_X3_readRow M Q) : am_CC 2 99 [.inr (.inl (some 64))] M (am_QV Q) (fun _ _ => False) := by
  refine ⟨Nat.le_of_ble_eq_true rfl, ?_⟩
  show am_W (am_CC 1) dt_X3_readRow 1 0 none (am_QV Q) (am_qx 99 (fun _ _ => False)) (0, 0, [(0, .inr (.inl (some 64)))], [], M)
  refine am_Wrun 11 (ps := []) (pc' := 14) (lv' := [(4, .inl (0)), (3, .inl (1)), (2, .inl (0)), (1, .inl (0)), (0, .inr (.inl (some 64)))]) (st' := []) (M' := (am_up M 64 4 0)) rfl trivial ?_
  refine am_W_sub [4, 3, 2, 1, 0] rfl ?_
  obtain ⟨n14, h⟩ := h
  exact tw_X3_readRow_14 n14 0 0 1 0 (am_up M 64 4 0) h
abbrev dt_X5_parsedTimesAreFree : am_D := (tk_X5_parsedTimesAreFree, 5, 3, some .boolean, tb_hn 101)
def wl_X5_parsedTimesAreFree_36 (Q : Int → am_M → Prop) (k2 : Int → am_M → Prop) : Nat → Int → Int → am_M → Prop
  | 0, _, _, _ => False
  | n + 1, v1, v2, M => (am_rg v2) ∧ (am_rg v1) ∧ (v1 ≤ v2 → k2 (v1 + 1) M) ∧ (¬ v1 ≤ v2 → (0 ≤ (v2 : Int) ∧ (v2 : Int) < 60) ∧ (0 ≤ (v1 : Int) ∧ (v1 : Int) < 60) ∧ ((am_rg (M 66 v2)) ∧ (am_rg (M 66 v1)) ∧ (¬ (M 66 v2) = (M 66 v1) → wl_X5_parsedTimesAreFree_36 Q k2 n v1 (v2 + 1) M) ∧ (¬ (¬ (M 66 v2) = (M 66 v1)) → Q 0 M)))
def wl_X5_parsedTimesAreFree_2 (Q : Int → am_M → Prop) : Nat → Int → am_M → Prop
  | 0, _, _ => False
  | n + 1, v1, M => (am_rg v1) ∧ (am_rg (M 64 4)) ∧ ((M 64 4) ≤ v1 → Q 1 M) ∧ (¬ (M 64 4) ≤ v1 → (0 ≤ (v1 : Int) ∧ (v1 : Int) < 60) ∧ (wp_X2_hasTime (M 66 v1) M (fun x1 M2 => (am_rg x1) ∧ (x1 = 0 → ∃ e36, wl_X5_parsedTimesAreFree_36 Q (wl_X5_parsedTimesAreFree_2 Q n) e36 v1 0 M2) ∧ (¬ x1 = 0 → Q 0 M2))))
def wp_X5_parsedTimesAreFree (M : am_M) (Q : Int → am_M → Prop) : Prop := ∃ e2, wl_X5_parsedTimesAreFree_2 Q e2 0 M
set_option maxRecDepth 20000 in
theorem tw_X5_parsedTimesAreFree_36 {Q : Int → am_M → Prop} {QX : am_X} {k2 : Int → am_M → Prop} (hk2 : ∀ (v1 : Int) (M : am_M), k2 v1 M → am_W (am_CC 2) dt_X5_parsedTimesAreFree 2 0 none (am_QI Q) QX (0, 2, [(0, .inr (.inl (some 0))), (1, .inl (v1))], [], M)) : ∀ (n : Nat) (v1 : Int) (v2 : Int) (M : am_M), wl_X5_parsedTimesAreFree_36 Q k2 n v1 v2 M → am_W (am_CC 2) dt_X5_parsedTimesAreFree 2 0 none (am_QI Q) QX (0, 36, [(0, .inr (.inl (some 0))), (1, .inl (v1)), (2, .inl (v2))], [], M)
  | 0, _, _, _, h => h.elim
  | n + 1, v1, v2, M, h => by
    refine am_Wrun 2 (ps := []) (pc' := 38) (lv' := [(0, .inr (.inl (some 0))), (1, .inl (v1)), (2, .inl (v2))]) (st' := [.inl (v1), .inl (v2)]) (M' := M) rfl trivial ?_
    obtain ⟨b0, b1, ht, hf⟩ := h
    refine am_Wbr (P := [am_rg v2, am_rg v1]) (c := v1 ≤ v2) (t := 70) (f := 41) (st' := []) rfl rfl ⟨b0, b1, trivial⟩ rfl (fun q => ?_) (fun q => ?_)
    · have h := ht q
      refine am_Wrun 2 (ps := []) (pc' := 2) (lv' := [(1, .inl (v1 + 1)), (0, .inr (.inl (some 0))), (2, .inl (v2))]) (st' := []) (M' := M) rfl trivial ?_
      refine am_W_sub [1, 0] rfl ?_
      exact hk2 (v1 + 1) M h
    · have h := hf q
      obtain ⟨c0_0, c1_0, h⟩ := h
      refine am_Wrun 10 (ps := [0 ≤ (v2 : Int) ∧ (v2 : Int) < 60, 0 ≤ (v1 : Int) ∧ (v1 : Int) < 60]) (pc' := 59) (lv' := [(0, .inr (.inl (some 0))), (1, .inl (v1)), (2, .inl (v2))]) (st' := [.inl (M 66 v1), .inl (M 66 v2)]) (M' := M) rfl ⟨c0_0, c1_0, trivial⟩ ?_
      obtain ⟨b0, b1, ht, hf⟩ := h
      refine am_Wbr (P := [am_rg (M 66 v2), am_rg (M 66 v1)]) (c := ¬ (M 66 v2) = (M 66 v1)) (t := 64) (f := 62) (st' := []) rfl rfl ⟨b0, b1, trivial⟩ rfl (fun q => ?_) (fun q => ?_)
      · have h := ht q
        refine am_Wrun 2 (ps := []) (pc' := 36) (lv' := [(2, .inl (v2 + 1)), (0, .inr (.inl (some 0))), (1, .inl (v1))]) (st' := []) (M' := M) rfl trivial ?_
        refine am_W_sub [1, 2, 0] rfl ?_
        exact tw_X5_parsedTimesAreFree_36 hk2 n v1 (v2 + 1) M h
      · have h := hf q
        refine am_Wrun 1 (ps := []) (pc' := 63) (lv' := [(0, .inr (.inl (some 0))), (1, .inl (v1)), (2, .inl (v2))]) (st' := [.inl (0)]) (M' := M) rfl trivial ?_
        exact am_Wretz rfl rfl (Or.inl rfl) h
set_option maxRecDepth 20000 in
theorem tw_X5_parsedTimesAreFree_2 {Q : Int → am_M → Prop} {QX : am_X} : ∀ (n : Nat) (v1 : Int) (M : am_M), wl_X5_parsedTimesAreFree_2 Q n v1 M → am_W (am_CC 2) dt_X5_parsedTimesAreFree 2 0 none (am_QI Q) QX (0, 2, [(0, .inr (.inl (some 0))), (1, .inl (v1))], [], M)
  | 0, _, _, h => h.elim
  | n + 1, v1, M, h => by
    refine am_Wrun 4 (ps := []) (pc' := 10) (lv' := [(0, .inr (.inl (some 0))), (1, .inl (v1))]) (st' := [.inl (M 64 4), .inl (v1)]) (M' := M) rfl trivial ?_
    obtain ⟨b0, b1, ht, hf⟩ := h
    refine am_Wbr (P := [am_rg v1, am_rg (M 64 4)]) (c := (M 64 4) ≤ v1) (t := 76) (f := 13) (st' := []) rfl rfl ⟨b0, b1, trivial⟩ rfl (fun q => ?_) (fun q => ?_)
    · have h := ht q
      refine am_Wrun 1 (ps := []) (pc' := 77) (lv' := [(0, .inr (.inl (some 0))), (1, .inl (v1))]) (st' := [.inl (1)]) (M' := M) rfl trivial ?_
      exact am_Wretz rfl rfl (Or.inr rfl) h
    · have h := hf q
      obtain ⟨c0_0, h⟩ := h
      refine am_Wrun 7 (ps := [0 ≤ (v1 : Int) ∧ (v1 : Int) < 60]) (pc' := 26) (lv' := [(0, .inr (.inl (some 0))), (1, .inl (v1))]) (st' := [.inl (M 66 v1), .inr (.inl (some 1))]) (M' := M) rfl ⟨c0_0, trivial⟩ ?_
      refine am_WcallV (y := 79) (n := 2) (a := 1) (f := 29) (as := [.inl (M 66 v1)]) (st' := []) rfl rfl rfl rfl rfl rfl rfl rfl rfl rfl (Nat.zero_le _) rfl (am_CC_le (Nat.le_of_ble_eq_true rfl) (tm_X2_hasTime h)) (fun r M2 q => ?_) (fun _ _ q => q.elim)
      obtain ⟨x1, rfl, h⟩ := q
      obtain ⟨b0, ht, hf⟩ := h
      refine am_Wbr (P := [am_rg x1]) (c := x1 = 0) (t := 34) (f := 32) (st' := []) rfl rfl ⟨b0, trivial⟩ rfl (fun q => ?_) (fun q => ?_)
      · have h := ht q
        refine am_Wrun 2 (ps := []) (pc' := 36) (lv' := [(2, .inl (0)), (0, .inr (.inl (some 0))), (1, .inl (v1))]) (st' := []) (M' := M2) rfl trivial ?_
        refine am_W_sub [1, 2, 0] rfl ?_
        obtain ⟨n36, h⟩ := h
        exact tw_X5_parsedTimesAreFree_36 (tw_X5_parsedTimesAreFree_2 n) n36 v1 0 M2 h
      · have h := hf q
        refine am_Wrun 1 (ps := []) (pc' := 33) (lv' := [(0, .inr (.inl (some 0))), (1, .inl (v1))]) (st' := [.inl (0)]) (M' := M2) rfl trivial ?_
        exact am_Wretz rfl rfl (Or.inl rfl) h
set_option maxRecDepth 20000 in
theorem tm_X5_parsedTimesAreFree {M : am_M} {Q : Int → am_M → Prop} (h : wp_X5_parsedTimesAreFree M Q) : am_CC 3 101 [.inr (.inl (some 0))] M (am_QI Q) (fun _ _ => False) := by
  refine ⟨Nat.le_of_ble_eq_true rfl, ?_⟩
  show am_W (am_CC 2) dt_X5_parsedTimesAreFree 2 0 none (am_QI Q) (am_qx 101 (fun _ _ => False)) (0, 0, [(0, .inr (.inl (some 0)))], [], M)
  refine am_Wrun 2 (ps := []) (pc' := 2) (lv' := [(1, .inl (0)), (0, .inr (.inl (some 0)))]) (st' := []) (M' := M) rfl trivial ?_
  refine am_W_sub [1, 0] rfl ?_
  obtain ⟨n2, h⟩ := h
  exact tw_X5_parsedTimesAreFree_2 n2 0 M h
abbrev dt_X5_addAll : am_D := (tk_X5_addAll, 5, 2, some .int, tb_hn 97)
def wj_X5_addAll_54 (Q : Int → am_M → Prop) (X : am_X) (M : am_M) : Prop := X 1 M
def wl_X5_addAll_77 (Q : Int → am_M → Prop) (X : am_X) : Nat → Int → am_M → Prop
  | 0, _, _ => False
  | n + 1, v1, M => (am_rg v1) ∧ (am_rg (M 64 4)) ∧ ((M 64 4) ≤ v1 → wp_X5_pointsChanged (am_up M 64 1 0) (fun M7 => Q (M7 1 7) M7)) ∧ (¬ (M 64 4) ≤ v1 → (0 ≤ (v1 : Int) ∧ (v1 : Int) < 60) ∧ (0 ≤ (v1 : Int) ∧ (v1 : Int) < 60) ∧ (wp_X2_insert (M 66 v1) (M 67 v1) M (fun x8 M9 => wl_X5_addAll_77 Q X n (v1 + 1) M9)))
def wp_X5_addAll (M : am_M) (Q : Int → am_M → Prop) (X : am_X) : Prop := wp_X3_isRow M (fun x1 M2 => (am_rg x1) ∧ (¬ x1 = 0 → wp_X3_readRow M2 (fun M3 => (am_rg ((M3 1 7) + (M3 64 4))) ∧ (60 < ((M3 1 7) + (M3 64 4)) → wj_X5_addAll_54 Q X  M3) ∧ (¬ 60 < ((M3 1 7) + (M3 64 4)) → wp_X5_parsedTimesAreFree M3 (fun x4 M5 => (am_rg x4) ∧ (¬ x4 = 0 → wp_X0_remember M5 (fun M6 => ∃ e77, wl_X5_addAll_77 Q X e77 0 M6)) ∧ (¬ (¬ x4 = 0) → wj_X5_addAll_54 Q X  M5))))) ∧ (¬ (¬ x1 = 0) → X 0 M2))
set_option maxRecDepth 20000 in
theorem tj_X5_addAll_54 {Q : Int → am_M → Prop} {X : am_X} {QX : am_X} (hX : ∀ E M, X E M → QX E M) (M : am_M) (h : wj_X5_addAll_54 Q X M) : am_W (am_CC 5) dt_X5_addAll 5 0 none (am_QI Q) QX (0, 54, [], [], M) := by
  exact am_Wthr (is := 198) (ic := 77) (E := 1) rfl (Nat.le_of_ble_eq_true rfl) rfl rfl rfl rfl (Or.inl ⟨rfl, rfl, rfl⟩) (hX _ _ h)
set_option maxRecDepth 20000 in
theorem tw_X5_addAll_77 {Q : Int → am_M → Prop} {X : am_X} {QX : am_X} (hX : ∀ E M, X E M → QX E M) : ∀ (n : Nat) (v1 : Int) (M : am_M), wl_X5_addAll_77 Q X n v1 M → am_W (am_CC 5) dt_X5_addAll 5 0 none (am_QI Q) QX (0, 77, [(0, .inr (.inl (some 0))), (1, .inl (v1))], [], M)
  | 0, _, _, h => h.elim
  | n + 1, v1, M, h => by
    refine am_Wrun 4 (ps := []) (pc' := 85) (lv' := [(0, .inr (.inl (some 0))), (1, .inl (v1))]) (st' := [.inl (M 64 4), .inl (v1)]) (M' := M) rfl trivial ?_
    obtain ⟨b0, b1, ht, hf⟩ := h
    refine am_Wbr (P := [am_rg v1, am_rg (M 64 4)]) (c := (M 64 4) ≤ v1) (t := 120) (f := 88) (st' := []) rfl rfl ⟨b0, b1, trivial⟩ rfl (fun q => ?_) (fun q => ?_)
    · have h := ht q
      refine am_Wrun 5 (ps := []) (pc' := 129) (lv' := [(0, .inr (.inl (some 0))), (1, .inl (v1))]) (st' := [.inr (.inl (some 0))]) (M' := (am_up M 64 1 0)) rfl trivial ?_
      refine am_WcallV (y := 82) (n := 1) (a := 0) (f := 132) (as := []) (st' := []) rfl rfl rfl rfl rfl rfl rfl rfl rfl rfl (Nat.zero_le _) rfl (am_CC_le (Nat.le_of_ble_eq_true rfl) (tm_X5_pointsChanged h)) (fun r M7 q => ?_) (fun _ _ q => q.elim)
      obtain ⟨rfl, h⟩ := q
      refine am_Wrun 3 (ps := []) (pc' := 139) (lv' := [(0, .inr (.inl (some 0))), (1, .inl (v1))]) (st' := [.inl (M7 1 7)]) (M' := M7) rfl trivial ?_
      exact am_Wreti rfl rfl h
    · have h := hf q
      obtain ⟨c0_0, c1_0, h⟩ := h
      refine am_Wrun 12 (ps := [0 ≤ (v1 : Int) ∧ (v1 : Int) < 60, 0 ≤ (v1 : Int) ∧ (v1 : Int) < 60]) (pc' := 110) (lv' := [(0, .inr (.inl (some 0))), (1, .inl (v1))]) (st' := [.inl (M 67 v1), .inl (M 66 v1), .inr (.inl (some 1))]) (M' := M) rfl ⟨c0_0, c1_0, trivial⟩ ?_
      refine am_WcallV (y := 80) (n := 3) (a := 1) (f := 113) (as := [.inl (M 66 v1), .inl (M 67 v1)]) (st' := []) rfl rfl rfl rfl rfl rfl rfl rfl rfl rfl (Nat.zero_le _) rfl (am_CC_le (Nat.le_of_ble_eq_true rfl) (tm_X2_insert h)) (fun r M9 q => ?_) (fun _ _ q => q.elim)
      obtain ⟨x8, rfl, h⟩ := q
      refine am_Wrun 3 (ps := []) (pc' := 77) (lv' := [(1, .inl (v1 + 1)), (0, .inr (.inl (some 0)))]) (st' := []) (M' := M9) rfl trivial ?_
      refine am_W_sub [1, 0] rfl ?_
      exact tw_X5_addAll_77 hX n (v1 + 1) M9 h
set_option maxRecDepth 20000 in
theorem tm_X5_addAll {M : am_M} {Q : Int → am_M → Prop} {X : am_X} (h : wp_X5_addAll M Q X) : am_CC 6 97 [.inr (.inl (some 0))] M (am_QI Q) X := by
  refine ⟨Nat.le_of_ble_eq_true rfl, ?_⟩
  show am_W (am_CC 5) dt_X5_addAll 5 0 none (am_QI Q) (am_qx 97 X) (0, 0, [(0, .inr (.inl (some 0)))], [], M)
  have hX : ∀ E M, X E M → am_qx 97 X E M := fun E M q => ⟨⟨rfl, by decide⟩, q⟩
  refine am_Wrun 2 (ps := []) (pc' := 4) (lv' := [(0, .inr (.inl (some 0)))]) (st' := [.inr (.inl (some 64))]) (M' := M) rfl trivial ?_
  refine am_WcallV (y := 98) (n := 1) (a := 64) (f := 7) (as := []) (st' := []) rfl rfl rfl rfl rfl rfl rfl rfl rfl rfl (Nat.zero_le _) rfl (am_CC_le (Nat.le_of_ble_eq_true rfl) (tm_X3_isRow h)) (fun r M2 q => ?_) (fun _ _ q => q.elim)
  obtain ⟨x1, rfl, h⟩ := q
  obtain ⟨b0, ht, hf⟩ := h
  refine am_Wbr (P := [am_rg x1]) (c := ¬ x1 = 0) (t := 20) (f := 10) (st' := []) rfl rfl ⟨b0, trivial⟩ rfl (fun q => ?_) (fun q => ?_)
  · have h := ht q
    refine am_Wrun 2 (ps := []) (pc' := 24) (lv' := [(0, .inr (.inl (some 0)))]) (st' := [.inr (.inl (some 64))]) (M' := M2) rfl trivial ?_
    refine am_WcallV (y := 99) (n := 1) (a := 64) (f := 27) (as := []) (st' := []) rfl rfl rfl rfl rfl rfl rfl rfl rfl rfl (Nat.zero_le _) rfl (am_CC_le (Nat.le_of_ble_eq_true rfl) (tm_X3_readRow h)) (fun r M3 q => ?_) (fun _ _ q => q.elim)
    obtain ⟨rfl, h⟩ := q
    refine am_Wrun 8 (ps := [-128 ≤ (60 : Int) ∧ (60 : Int) ≤ 127]) (pc' := 44) (lv' := [(0, .inr (.inl (some 0)))]) (st' := [.inl (60), .inl ((M3 1 7) + (M3 64 4))]) (M' := M3) rfl ⟨⟨by decide, by decide⟩, trivial⟩ ?_
    obtain ⟨b0, ht, hf⟩ := h
    refine am_Wbr (P := [am_rg ((M3 1 7) + (M3 64 4)), am_rg 60]) (c := 60 < ((M3 1 7) + (M3 64 4))) (t := 54) (f := 47) (st' := []) rfl rfl ⟨b0, (am_rgd rfl), trivial⟩ rfl (fun q => ?_) (fun q => ?_)
    · have h := ht q
      refine am_W_sub [] rfl ?_
      exact tj_X5_addAll_54 hX  M3 h
    · have h := hf q
      refine am_Wrun 1 (ps := []) (pc' := 48) (lv' := [(0, .inr (.inl (some 0)))]) (st' := [.inr (.inl (some 0))]) (M' := M3) rfl trivial ?_
      refine am_WcallV (y := 101) (n := 1) (a := 0) (f := 51) (as := []) (st' := []) rfl rfl rfl rfl rfl rfl rfl rfl rfl rfl (Nat.zero_le _) rfl (am_CC_le (Nat.le_of_ble_eq_true rfl) (tm_X5_parsedTimesAreFree h)) (fun r M5 q => ?_) (fun _ _ q => q.elim)
      obtain ⟨x4, rfl, h⟩ := q
      obtain ⟨b0, ht, hf⟩ := h
      refine am_Wbr (P := [am_rg x4]) (c := ¬ x4 = 0) (t := 64) (f := 54) (st' := []) rfl rfl ⟨b0, trivial⟩ rfl (fun q => ?_) (fun q => ?_)
      · have h := ht q
        refine am_Wrun 4 (ps := []) (pc' := 72) (lv' := [(0, .inr (.inl (some 0)))]) (st' := [.inr (.inl (some 1)), .inr (.inl (some 14))]) (M' := M5) rfl trivial ?_
        refine am_WcallV (y := 1) (n := 2) (a := 14) (f := 75) (as := [.inr (.inl (some 1))]) (st' := []) rfl rfl rfl rfl rfl rfl rfl rfl rfl rfl (Nat.zero_le _) rfl (am_CC_le (Nat.le_of_ble_eq_true rfl) (tm_X0_remember h)) (fun r M6 q => ?_) (fun _ _ q => q.elim)
        obtain ⟨rfl, h⟩ := q
        refine am_Wrun 2 (ps := []) (pc' := 77) (lv' := [(1, .inl (0)), (0, .inr (.inl (some 0)))]) (st' := []) (M' := M6) rfl trivial ?_
        refine am_W_sub [1, 0] rfl ?_
        obtain ⟨n77, h⟩ := h
        exact tw_X5_addAll_77 hX n77 0 M6 h
      · have h := hf q
        refine am_W_sub [] rfl ?_
        exact tj_X5_addAll_54 hX  M5 h
  · have h := hf q
    exact am_Wthr (is := 187) (ic := 63) (E := 0) rfl (Nat.le_of_ble_eq_true rfl) rfl rfl rfl rfl (Or.inl ⟨rfl, rfl, rfl⟩) (hX _ _ h)
abbrev dt_L_addAll : am_D := (tk_L_addAll, 9, 3, some .int, tb_hn 208)
def wp_L_addAll (M : am_M) (Q : Int → am_M → Prop) : Prop := wp_X5_addAll M (fun x1 M2 => (am_rg x1) ∧ (Q 0 (am_up M2 80 0 x1))) (fun E M3 => (E = 0 ∧ Q 1 M3) ∨ (E = 1 ∧ Q 2 M3))
set_option maxRecDepth 20000 in
theorem tm_L_addAll {M : am_M} {Q : Int → am_M → Prop} (h : wp_L_addAll M Q) : am_CC 7 208 [.inr (.inl (some 0)), .inr (.inl (some 80))] M (am_QI Q) (fun _ _ => False) := by
  refine ⟨Nat.le_of_ble_eq_true rfl, ?_⟩
  show am_W (am_CC 6) dt_L_addAll 6 1 none (am_QI Q) (am_qx 208 (fun _ _ => False)) (0, 0, [(0, .inr (.inl (some 0))), (1, .inr (.inl (some 80)))], [], M)
  refine am_Wrun 3 (ps := []) (pc' := 3) (lv' := [(0, .inr (.inl (some 0))), (1, .inr (.inl (some 80)))]) (st' := [.inr (.inl (some 0)), .inl (0), .inr (.inl (some 80))]) (M' := M) rfl trivial ?_
  refine am_WcallV (y := 97) (n := 1) (a := 0) (f := 6) (as := []) (st' := [.inl (0), .inr (.inl (some 80))]) rfl rfl rfl rfl rfl rfl rfl rfl rfl rfl (Nat.zero_le _) rfl (am_CC_le (Nat.le_of_ble_eq_true rfl) (tm_X5_addAll h)) (fun r M2 q => ?_) (fun E M3 q => ?_)
  · obtain ⟨x1, rfl, h⟩ := q
    obtain ⟨c0_0, h⟩ := h
    refine am_Wrun 4 (ps := [am_rg x1, 0 ≤ (0 : Int) ∧ (0 : Int) < 1]) (pc' := 18) (lv' := [(0, .inr (.inl (some 0))), (1, .inr (.inl (some 80)))]) (st' := [.inl (0)]) (M' := (am_up M2 80 0 x1)) rfl ⟨c0_0, ⟨by decide, by decide⟩, trivial⟩ ?_
    exact am_Wreti rfl rfl h
  · rcases q with ⟨rfl, h⟩ | ⟨rfl, h⟩
    · show 0 + 1 ≤ 1 ∧ am_W (am_CC 6) dt_L_addAll 6 1 none (am_QI Q) _ (0 + 1, 12, [(0, .inr (.inl (some 0))), (1, .inr (.inl (some 80)))], [], M3)
      refine ⟨Nat.le_refl _, ?_⟩
      refine am_Wrun 1 (ps := []) (pc' := 13) (lv' := [(0, .inr (.inl (some 0))), (1, .inr (.inl (some 80)))]) (st' := [.inl (1)]) (M' := M3) rfl trivial ?_
      exact am_Wreti rfl rfl h
    · show 0 + 1 ≤ 1 ∧ am_W (am_CC 6) dt_L_addAll 6 1 none (am_QI Q) _ (0 + 1, 15, [(0, .inr (.inl (some 0))), (1, .inr (.inl (some 80)))], [], M3)
      refine ⟨Nat.le_refl _, ?_⟩
      refine am_Wrun 1 (ps := []) (pc' := 16) (lv' := [(0, .inr (.inl (some 0))), (1, .inr (.inl (some 80)))]) (st' := [.inl (2)]) (M' := M3) rfl trivial ?_
      exact am_Wreti rfl rfl h
abbrev dt_X6_addAll : am_D := (tk_X6_addAll, 6, 4, some .int, tb_hn 164)
def wj_X6_addAll_23 (Q : Int → am_M → Prop) (M : am_M) : Prop := wp_X6_fails 1 M (fun x3 M4 => Q x3 M4)
def wl_X6_addAll_144 (Q : Int → am_M → Prop) : Nat → Int → am_M → Prop
  | 0, _, _ => False
  | n + 1, v2, M => (am_rg v2) ∧ (am_rg (M 69 17)) ∧ ((M 69 17) ≤ v2 → Q ((am_up M 69 4 0) 70 0) (am_up M 69 4 0)) ∧ (¬ (M 69 17) ≤ v2 → (0 ≤ (v2 : Int) ∧ (v2 : Int) < 60) ∧ (0 ≤ (v2 : Int) ∧ (v2 : Int) < 60) ∧ (wp_X6_adds (M 78 v2) (M 79 v2) M (fun x6 M7 => wl_X6_addAll_144 Q n (v2 + 1) M7)))
def wj_X6_addAll_128 (Q : Int → am_M → Prop) (v1 : Int) (M : am_M) : Prop := (am_rg v1) ∧ (¬ v1 = 0 → wp_X6_save M (fun M5 => ∃ e144, wl_X6_addAll_144 Q e144 0 M5)) ∧ (¬ (¬ v1 = 0) → wp_X6_fails 2 M (fun x8 M9 => Q x8 M9))
def wl_X6_addAll_86 (Q : Int → am_M → Prop) (k53 : Int → Int → am_M → Prop) : Nat → Int → Int → Int → am_M → Prop
  | 0, _, _, _, _ => False
  | n + 1, v1, v2, v3, M => (am_rg v3) ∧ (am_rg v2) ∧ (v2 ≤ v3 → k53 v1 (v2 + 1) M) ∧ (¬ v2 ≤ v3 → (am_rg v1) ∧ (v1 = 0 → k53 v1 (v2 + 1) M) ∧ (¬ v1 = 0 → (0 ≤ (v3 : Int) ∧ (v3 : Int) < 60) ∧ (0 ≤ (v2 : Int) ∧ (v2 : Int) < 60) ∧ ((am_rg (M 78 v3)) ∧ (am_rg (M 78 v2)) ∧ ((M 78 v3) = (M 78 v2) → wl_X6_addAll_86 Q k53 n 0 v2 (v3 + 1) M) ∧ (¬ (M 78 v3) = (M 78 v2) → wl_X6_addAll_86 Q k53 n 1 v2 (v3 + 1) M))))
def wl_X6_addAll_53 (Q : Int → am_M → Prop) : Nat → Int → Int → am_M → Prop
  | 0, _, _, _ => False
  | n + 1, v1, v2, M => (am_rg v2) ∧ (am_rg (M 69 17)) ∧ ((M 69 17) ≤ v2 → wj_X6_addAll_128 Q v1 M) ∧ (¬ (M 69 17) ≤ v2 → (am_rg v1) ∧ (v1 = 0 → wj_X6_addAll_128 Q v1 M) ∧ (¬ v1 = 0 → (0 ≤ (v2 : Int) ∧ (v2 : Int) < 60) ∧ (wp_X6_hasTime (M 78 v2) M (fun x10 M11 => (am_rg x10) ∧ (¬ x10 = 0 → ∃ e86, wl_X6_addAll_86 Q (wl_X6_addAll_53 Q n) e86 0 v2 0 M11) ∧ (¬ (¬ x10 = 0) → ∃ e86, wl_X6_addAll_86 Q (wl_X6_addAll_53 Q n) e86 1 v2 0 M11)))))
def wp_X6_addAll (M : am_M) (Q : Int → am_M → Prop) : Prop := wp_X6_reads (am_up M 69 5 0) (fun x1 M2 => (am_rg x1) ∧ (am_rg (M2 69 4)) ∧ (x1 < (M2 69 4) → wj_X6_addAll_23 Q  M2) ∧ (¬ x1 < (M2 69 4) → (am_rg (M2 69 18)) ∧ (¬ (M2 69 18) = 0 → (am_rg ((M2 70 0) + (M2 69 17))) ∧ (60 < ((M2 70 0) + (M2 69 17)) → ∃ e53, wl_X6_addAll_53 Q e53 0 0 M2) ∧ (¬ 60 < ((M2 70 0) + (M2 69 17)) → ∃ e53, wl_X6_addAll_53 Q e53 1 0 M2)) ∧ (¬ (¬ (M2 69 18) = 0) → wj_X6_addAll_23 Q  M2)))
set_option maxRecDepth 20000 in
theorem tj_X6_addAll_23 {Q : Int → am_M → Prop} {QX : am_X} (M : am_M) (h : wj_X6_addAll_23 Q M) : am_W (am_CC 4) dt_X6_addAll 4 0 none (am_QI Q) QX (0, 23, [(0, .inr (.inl (some 69)))], [], M) := by
  refine am_Wrun 2 (ps := []) (pc' := 25) (lv' := [(0, .inr (.inl (some 69)))]) (st' := [.inl (1), .inr (.inl (some 69))]) (M' := M) rfl trivial ?_
  refine am_WcallV (y := 113) (n := 2) (a := 69) (f := 28) (as := [.inl (1)]) (st' := []) rfl rfl rfl rfl rfl rfl rfl rfl rfl rfl (Nat.zero_le _) rfl (am_CC_le (Nat.le_of_ble_eq_true rfl) (tm_X6_fails h)) (fun r M4 q => ?_) (fun _ _ q => q.elim)
  obtain ⟨x3, rfl, h⟩ := q
  exact am_Wreti rfl rfl h
set_option maxRecDepth 20000 in
theorem tw_X6_addAll_144 {Q : Int → am_M → Prop} {QX : am_X} : ∀ (n : Nat) (v2 : Int) (M : am_M), wl_X6_addAll_144 Q n v2 M → am_W (am_CC 4) dt_X6_addAll 4 0 none (am_QI Q) QX (0, 144, [(0, .inr (.inl (some 69))), (2, .inl (v2))], [], M)
  | 0, _, _, h => h.elim
  | n + 1, v2, M, h => by
    refine am_Wrun 3 (ps := []) (pc' := 149) (lv' := [(0, .inr (.inl (some 69))), (2, .inl (v2))]) (st' := [.inl (M 69 17), .inl (v2)]) (M' := M) rfl trivial ?_
    obtain ⟨b0, b1, ht, hf⟩ := h
    refine am_Wbr (P := [am_rg v2, am_rg (M 69 17)]) (c := (M 69 17) ≤ v2) (t := 175) (f := 152) (st' := []) rfl rfl ⟨b0, b1, trivial⟩ rfl (fun q => ?_) (fun q => ?_)
    · have h := ht q
      refine am_Wrun 7 (ps := [0 ≤ (0 : Int) ∧ (0 : Int) < 203]) (pc' := 186) (lv' := [(0, .inr (.inl (some 69))), (2, .inl (v2))]) (st' := [.inl ((am_up M 69 4 0) 70 0)]) (M' := (am_up M 69 4 0)) rfl ⟨⟨by decide, by decide⟩, trivial⟩ ?_
      exact am_Wreti rfl rfl h
    · have h := hf q
      obtain ⟨c0_0, c1_0, h⟩ := h
      refine am_Wrun 9 (ps := [0 ≤ (v2 : Int) ∧ (v2 : Int) < 60, 0 ≤ (v2 : Int) ∧ (v2 : Int) < 60]) (pc' := 165) (lv' := [(0, .inr (.inl (some 69))), (2, .inl (v2))]) (st' := [.inl (M 79 v2), .inl (M 78 v2), .inr (.inl (some 69))]) (M' := M) rfl ⟨c0_0, c1_0, trivial⟩ ?_
      refine am_WcallV (y := 117) (n := 3) (a := 69) (f := 168) (as := [.inl (M 78 v2), .inl (M 79 v2)]) (st' := []) rfl rfl rfl rfl rfl rfl rfl rfl rfl rfl (Nat.zero_le _) rfl (am_CC_le (Nat.le_of_ble_eq_true rfl) (tm_X6_adds h)) (fun r M7 q => ?_) (fun _ _ q => q.elim)
      obtain ⟨x6, rfl, h⟩ := q
      refine am_Wrun 3 (ps := []) (pc' := 144) (lv' := [(2, .inl (v2 + 1)), (0, .inr (.inl (some 69)))]) (st' := []) (M' := M7) rfl trivial ?_
      refine am_W_sub [1, 0] rfl ?_
      exact tw_X6_addAll_144 n (v2 + 1) M7 h
set_option maxRecDepth 20000 in
theorem tj_X6_addAll_128 {Q : Int → am_M → Prop} {QX : am_X} (v1 : Int) (M : am_M) (h : wj_X6_addAll_128 Q v1 M) : am_W (am_CC 4) dt_X6_addAll 4 0 none (am_QI Q) QX (0, 128, [(0, .inr (.inl (some 69))), (1, .inl (v1))], [], M) := by
  refine am_Wrun 1 (ps := []) (pc' := 129) (lv' := [(0, .inr (.inl (some 69))), (1, .inl (v1))]) (st' := [.inl (v1)]) (M' := M) rfl trivial ?_
  obtain ⟨b0, ht, hf⟩ := h
  refine am_Wbr (P := [am_rg v1]) (c := ¬ v1 = 0) (t := 138) (f := 132) (st' := []) rfl rfl ⟨b0, trivial⟩ rfl (fun q => ?_) (fun q => ?_)
  · have h := ht q
    refine am_Wrun 1 (ps := []) (pc' := 139) (lv' := [(0, .inr (.inl (some 69))), (1, .inl (v1))]) (st' := [.inr (.inl (some 69))]) (M' := M) rfl trivial ?_
    refine am_WcallV (y := 116) (n := 1) (a := 69) (f := 142) (as := []) (st' := []) rfl rfl rfl rfl rfl rfl rfl rfl rfl rfl (Nat.zero_le _) rfl (am_CC_le (Nat.le_of_ble_eq_true rfl) (tm_X6_save h)) (fun r M5 q => ?_) (fun _ _ q => q.elim)
    obtain ⟨rfl, h⟩ := q
    refine am_Wrun 2 (ps := []) (pc' := 144) (lv' := [(2, .inl (0)), (0, .inr (.inl (some 69))), (1, .inl (v1))]) (st' := []) (M' := M5) rfl trivial ?_
    refine am_W_sub [1, 0] rfl ?_
    obtain ⟨n144, h⟩ := h
    exact tw_X6_addAll_144 n144 0 M5 h
  · have h := hf q
    refine am_Wrun 2 (ps := []) (pc' := 134) (lv' := [(0, .inr (.inl (some 69))), (1, .inl (v1))]) (st' := [.inl (2), .inr (.inl (some 69))]) (M' := M) rfl trivial ?_
    refine am_WcallV (y := 113) (n := 2) (a := 69) (f := 137) (as := [.inl (2)]) (st' := []) rfl rfl rfl rfl rfl rfl rfl rfl rfl rfl (Nat.zero_le _) rfl (am_CC_le (Nat.le_of_ble_eq_true rfl) (tm_X6_fails h)) (fun r M9 q => ?_) (fun _ _ q => q.elim)
    obtain ⟨x8, rfl, h⟩ := q
    exact am_Wreti rfl rfl h
set_option maxRecDepth 20000 in
theorem tw_X6_addAll_86 {Q : Int → am_M → Prop} {QX : am_X} {k53 : Int → Int → am_M → Prop} (hk53 : ∀ (v1 : Int) (v2 : Int) (M : am_M), k53 v1 v2 M → am_W (am_CC 4) dt_X6_addAll 4 0 none (am_QI Q) QX (0, 53, [(0, .inr (.inl (some 69))), (1, .inl (v1)), (2, .inl (v2))], [], M)) : ∀ (n : Nat) (v1 : Int) (v2 : Int) (v3 : Int) (M : am_M), wl_X6_addAll_86 Q k53 n v1 v2 v3 M → am_W (am_CC 4) dt_X6_addAll 4 0 none (am_QI Q) QX (0, 86, [(0, .inr (.inl (some 69))), (1, .inl (v1)), (2, .inl (v2)), (3, .inl (v3))], [], M)
  | 0, _, _, _, _, h => h.elim
  | n + 1, v1, v2, v3, M, h => by
    refine am_Wrun 2 (ps := []) (pc' := 88) (lv' := [(0, .inr (.inl (some 69))), (1, .inl (v1)), (2, .inl (v2)), (3, .inl (v3))]) (st' := [.inl (v2), .inl (v3)]) (M' := M) rfl trivial ?_
    obtain ⟨b0, b1, ht, hf⟩ := h
    refine am_Wbr (P := [am_rg v3, am_rg v2]) (c := v2 ≤ v3) (t := 122) (f := 91) (st' := []) rfl rfl ⟨b0, b1, trivial⟩ rfl (fun q => ?_) (fun q => ?_)
    · have h := ht q
      refine am_Wrun 2 (ps := []) (pc' := 53) (lv' := [(2, .inl (v2 + 1)), (0, .inr (.inl (some 69))), (1, .inl (v1)), (3, .inl (v3))]) (st' := []) (M' := M) rfl trivial ?_
      refine am_W_sub [1, 2, 0] rfl ?_
      exact hk53 v1 (v2 + 1) M h
    · have h := hf q
      refine am_Wrun 1 (ps := []) (pc' := 92) (lv' := [(0, .inr (.inl (some 69))), (1, .inl (v1)), (2, .inl (v2)), (3, .inl (v3))]) (st' := [.inl (v1)]) (M' := M) rfl trivial ?_
      obtain ⟨b0, ht, hf⟩ := h
      refine am_Wbr (P := [am_rg v1]) (c := v1 = 0) (t := 122) (f := 95) (st' := []) rfl rfl ⟨b0, trivial⟩ rfl (fun q => ?_) (fun q => ?_)
      · have h := ht q
        refine am_Wrun 2 (ps := []) (pc' := 53) (lv' := [(2, .inl (v2 + 1)), (0, .inr (.inl (some 69))), (1, .inl (v1)), (3, .inl (v3))]) (st' := []) (M' := M) rfl trivial ?_
        refine am_W_sub [1, 2, 0] rfl ?_
        exact hk53 v1 (v2 + 1) M h
      · have h := hf q
        obtain ⟨c0_0, c1_0, h⟩ := h
        refine am_Wrun 8 (ps := [0 ≤ (v3 : Int) ∧ (v3 : Int) < 60, 0 ≤ (v2 : Int) ∧ (v2 : Int) < 60]) (pc' := 107) (lv' := [(0, .inr (.inl (some 69))), (1, .inl (v1)), (2, .inl (v2)), (3, .inl (v3))]) (st' := [.inl (M 78 v2), .inl (M 78 v3)]) (M' := M) rfl ⟨c0_0, c1_0, trivial⟩ ?_
        obtain ⟨b0, b1, ht, hf⟩ := h
        refine am_Wbr (P := [am_rg (M 78 v3), am_rg (M 78 v2)]) (c := (M 78 v3) = (M 78 v2)) (t := 114) (f := 110) (st' := []) rfl rfl ⟨b0, b1, trivial⟩ rfl (fun q => ?_) (fun q => ?_)
        · have h := ht q
          refine am_Wrun 4 (ps := []) (pc' := 86) (lv' := [(3, .inl (v3 + 1)), (1, .inl (0)), (0, .inr (.inl (some 69))), (2, .inl (v2))]) (st' := []) (M' := M) rfl trivial ?_
          refine am_W_sub [2, 1, 3, 0] rfl ?_
          exact tw_X6_addAll_86 hk53 n 0 v2 (v3 + 1) M h
        · have h := hf q
          refine am_Wrun 5 (ps := []) (pc' := 86) (lv' := [(3, .inl (v3 + 1)), (1, .inl (1)), (0, .inr (.inl (some 69))), (2, .inl (v2))]) (st' := []) (M' := M) rfl trivial ?_
          refine am_W_sub [2, 1, 3, 0] rfl ?_
          exact tw_X6_addAll_86 hk53 n 1 v2 (v3 + 1) M h
set_option maxRecDepth 20000 in
theorem tw_X6_addAll_53 {Q : Int → am_M → Prop} {QX : am_X} : ∀ (n : Nat) (v1 : Int) (v2 : Int) (M : am_M), wl_X6_addAll_53 Q n v1 v2 M → am_W (am_CC 4) dt_X6_addAll 4 0 none (am_QI Q) QX (0, 53, [(0, .inr (.inl (some 69))), (1, .inl (v1)), (2, .inl (v2))], [], M)
  | 0, _, _, _, h => h.elim
  | n + 1, v1, v2, M, h => by
    refine am_Wrun 3 (ps := []) (pc' := 58) (lv' := [(0, .inr (.inl (some 69))), (1, .inl (v1)), (2, .inl (v2))]) (st' := [.inl (M 69 17), .inl (v2)]) (M' := M) rfl trivial ?_
    obtain ⟨b0, b1, ht, hf⟩ := h
    refine am_Wbr (P := [am_rg v2, am_rg (M 69 17)]) (c := (M 69 17) ≤ v2) (t := 128) (f := 61) (st' := []) rfl rfl ⟨b0, b1, trivial⟩ rfl (fun q => ?_) (fun q => ?_)
    · have h := ht q
      refine am_W_sub [0, 1] rfl ?_
      exact tj_X6_addAll_128 v1 M h
    · have h := hf q
      refine am_Wrun 1 (ps := []) (pc' := 62) (lv' := [(0, .inr (.inl (some 69))), (1, .inl (v1)), (2, .inl (v2))]) (st' := [.inl (v1)]) (M' := M) rfl trivial ?_
      obtain ⟨b0, ht, hf⟩ := h
      refine am_Wbr (P := [am_rg v1]) (c := v1 = 0) (t := 128) (f := 65) (st' := []) rfl rfl ⟨b0, trivial⟩ rfl (fun q => ?_) (fun q => ?_)
      · have h := ht q
        refine am_W_sub [0, 1] rfl ?_
        exact tj_X6_addAll_128 v1 M h
      · have h := hf q
        obtain ⟨c0_0, h⟩ := h
        refine am_Wrun 5 (ps := [0 ≤ (v2 : Int) ∧ (v2 : Int) < 60]) (pc' := 72) (lv' := [(0, .inr (.inl (some 69))), (1, .inl (v1)), (2, .inl (v2))]) (st' := [.inl (M 78 v2), .inr (.inl (some 69))]) (M' := M) rfl ⟨c0_0, trivial⟩ ?_
        refine am_WcallV (y := 114) (n := 2) (a := 69) (f := 75) (as := [.inl (M 78 v2)]) (st' := []) rfl rfl rfl rfl rfl rfl rfl rfl rfl rfl (Nat.zero_le _) rfl (am_CC_le (Nat.le_of_ble_eq_true rfl) (tm_X6_hasTime h)) (fun r M11 q => ?_) (fun _ _ q => q.elim)
        obtain ⟨x10, rfl, h⟩ := q
        obtain ⟨b0, ht, hf⟩ := h
        refine am_Wbr (P := [am_rg x10]) (c := ¬ x10 = 0) (t := 82) (f := 78) (st' := []) rfl rfl ⟨b0, trivial⟩ rfl (fun q => ?_) (fun q => ?_)
        · have h := ht q
          refine am_Wrun 4 (ps := []) (pc' := 86) (lv' := [(3, .inl (0)), (1, .inl (0)), (0, .inr (.inl (some 69))), (2, .inl (v2))]) (st' := []) (M' := M11) rfl trivial ?_
          refine am_W_sub [2, 1, 3, 0] rfl ?_
          obtain ⟨n86, h⟩ := h
          exact tw_X6_addAll_86 (tw_X6_addAll_53 n) n86 0 v2 0 M11 h
        · have h := hf q
          refine am_Wrun 5 (ps := []) (pc' := 86) (lv' := [(3, .inl (0)), (1, .inl (1)), (0, .inr (.inl (some 69))), (2, .inl (v2))]) (st' := []) (M' := M11) rfl trivial ?_
          refine am_W_sub [2, 1, 3, 0] rfl ?_
          obtain ⟨n86, h⟩ := h
          exact tw_X6_addAll_86 (tw_X6_addAll_53 n) n86 1 v2 0 M11 h
set_option maxRecDepth 20000 in
theorem tm_X6_addAll {M : am_M} {Q : Int → am_M → Prop} (h : wp_X6_addAll M Q) : am_CC 5 164 [.inr (.inl (some 69))] M (am_QI Q) (fun _ _ => False) := by
  refine ⟨Nat.le_of_ble_eq_true rfl, ?_⟩
  show am_W (am_CC 4) dt_X6_addAll 4 0 none (am_QI Q) (am_qx 164 (fun _ _ => False)) (0, 0, [(0, .inr (.inl (some 69)))], [], M)
  refine am_Wrun 4 (ps := []) (pc' := 6) (lv' := [(0, .inr (.inl (some 69)))]) (st' := [.inr (.inl (some 69))]) (M' := (am_up M 69 5 0)) rfl trivial ?_
  refine am_WcallV (y := 160) (n := 1) (a := 69) (f := 9) (as := []) (st' := []) rfl rfl rfl rfl rfl rfl rfl rfl rfl rfl (Nat.zero_le _) rfl (am_CC_le (Nat.le_of_ble_eq_true rfl) (tm_X6_reads h)) (fun r M2 q => ?_) (fun _ _ q => q.elim)
  obtain ⟨x1, rfl, h⟩ := q
  refine am_Wrun 2 (ps := []) (pc' := 13) (lv' := [(0, .inr (.inl (some 69)))]) (st' := [.inl (M2 69 4), .inl (x1)]) (M' := M2) rfl trivial ?_
  obtain ⟨b0, b1, ht, hf⟩ := h
  refine am_Wbr (P := [am_rg x1, am_rg (M2 69 4)]) (c := x1 < (M2 69 4)) (t := 23) (f := 16) (st' := []) rfl rfl ⟨b0, b1, trivial⟩ rfl (fun q => ?_) (fun q => ?_)
  · have h := ht q
    refine am_W_sub [0] rfl ?_
    exact tj_X6_addAll_23  M2 h
  · have h := hf q
    refine am_Wrun 2 (ps := []) (pc' := 20) (lv' := [(0, .inr (.inl (some 69)))]) (st' := [.inl (M2 69 18)]) (M' := M2) rfl trivial ?_
    obtain ⟨b0, ht, hf⟩ := h
    refine am_Wbr (P := [am_rg (M2 69 18)]) (c := ¬ (M2 69 18) = 0) (t := 29) (f := 23) (st' := []) rfl rfl ⟨b0, trivial⟩ rfl (fun q => ?_) (fun q => ?_)
    · have h := ht q
      refine am_Wrun 8 (ps := [0 ≤ (0 : Int) ∧ (0 : Int) < 203, -128 ≤ (60 : Int) ∧ (60 : Int) ≤ 127]) (pc' := 42) (lv' := [(0, .inr (.inl (some 69)))]) (st' := [.inl (60), .inl ((M2 70 0) + (M2 69 17))]) (M' := M2) rfl ⟨⟨by decide, by decide⟩, ⟨by decide, by decide⟩, trivial⟩ ?_
      obtain ⟨b0, ht, hf⟩ := h
      refine am_Wbr (P := [am_rg ((M2 70 0) + (M2 69 17)), am_rg 60]) (c := 60 < ((M2 70 0) + (M2 69 17))) (t := 49) (f := 45) (st' := []) rfl rfl ⟨b0, (am_rgd rfl), trivial⟩ rfl (fun q => ?_) (fun q => ?_)
      · have h := ht q
        refine am_Wrun 4 (ps := []) (pc' := 53) (lv' := [(2, .inl (0)), (1, .inl (0)), (0, .inr (.inl (some 69)))]) (st' := []) (M' := M2) rfl trivial ?_
        refine am_W_sub [2, 1, 0] rfl ?_
        obtain ⟨n53, h⟩ := h
        exact tw_X6_addAll_53 n53 0 0 M2 h
      · have h := hf q
        refine am_Wrun 5 (ps := []) (pc' := 53) (lv' := [(2, .inl (0)), (1, .inl (1)), (0, .inr (.inl (some 69)))]) (st' := []) (M' := M2) rfl trivial ?_
        refine am_W_sub [2, 1, 0] rfl ?_
        obtain ⟨n53, h⟩ := h
        exact tw_X6_addAll_53 n53 1 0 M2 h
    · have h := hf q
      refine am_W_sub [0] rfl ?_
      exact tj_X6_addAll_23  M2 h
def wp_X2_copyFrom_1_16 (M : am_M) (Q : am_M → Prop) : Prop := Q (am_up (am_up (am_up (am_up (am_cp (am_cp (am_cp (am_cp (am_cp (am_cp (am_cp M 17 2 60) 18 3 60) 19 4 60) 20 5 60) 21 6 3) 22 7 8) 23 8 8) 1 7 ((am_cp (am_cp (am_cp (am_cp (am_cp (am_cp (am_cp M 17 2 60) 18 3 60) 19 4 60) 20 5 60) 21 6 3) 22 7 8) 23 8 8) 16 7)) 1 8 ((am_up (am_cp (am_cp (am_cp (am_cp (am_cp (am_cp (am_cp M 17 2 60) 18 3 60) 19 4 60) 20 5 60) 21 6 3) 22 7 8) 23 8 8) 1 7 ((am_cp (am_cp (am_cp (am_cp (am_cp (am_cp (am_cp M 17 2 60) 18 3 60) 19 4 60) 20 5 60) 21 6 3) 22 7 8) 23 8 8) 16 7)) 16 8)) 1 9 ((am_up (am_up (am_cp (am_cp (am_cp (am_cp (am_cp (am_cp (am_cp M 17 2 60) 18 3 60) 19 4 60) 20 5 60) 21 6 3) 22 7 8) 23 8 8) 1 7 ((am_cp (am_cp (am_cp (am_cp (am_cp (am_cp (am_cp M 17 2 60) 18 3 60) 19 4 60) 20 5 60) 21 6 3) 22 7 8) 23 8 8) 16 7)) 1 8 ((am_up (am_cp (am_cp (am_cp (am_cp (am_cp (am_cp (am_cp M 17 2 60) 18 3 60) 19 4 60) 20 5 60) 21 6 3) 22 7 8) 23 8 8) 1 7 ((am_cp (am_cp (am_cp (am_cp (am_cp (am_cp (am_cp M 17 2 60) 18 3 60) 19 4 60) 20 5 60) 21 6 3) 22 7 8) 23 8 8) 16 7)) 16 8)) 16 9)) 1 10 ((am_up (am_up (am_up (am_cp (am_cp (am_cp (am_cp (am_cp (am_cp (am_cp M 17 2 60) 18 3 60) 19 4 60) 20 5 60) 21 6 3) 22 7 8) 23 8 8) 1 7 ((am_cp (am_cp (am_cp (am_cp (am_cp (am_cp (am_cp M 17 2 60) 18 3 60) 19 4 60) 20 5 60) 21 6 3) 22 7 8) 23 8 8) 16 7)) 1 8 ((am_up (am_cp (am_cp (am_cp (am_cp (am_cp (am_cp (am_cp M 17 2 60) 18 3 60) 19 4 60) 20 5 60) 21 6 3) 22 7 8) 23 8 8) 1 7 ((am_cp (am_cp (am_cp (am_cp (am_cp (am_cp (am_cp M 17 2 60) 18 3 60) 19 4 60) 20 5 60) 21 6 3) 22 7 8) 23 8 8) 16 7)) 16 8)) 1 9 ((am_up (am_up (am_cp (am_cp (am_cp (am_cp (am_cp (am_cp (am_cp M 17 2 60) 18 3 60) 19 4 60) 20 5 60) 21 6 3) 22 7 8) 23 8 8) 1 7 ((am_cp (am_cp (am_cp (am_cp (am_cp (am_cp (am_cp M 17 2 60) 18 3 60) 19 4 60) 20 5 60) 21 6 3) 22 7 8) 23 8 8) 16 7)) 1 8 ((am_up (am_cp (am_cp (am_cp (am_cp (am_cp (am_cp (am_cp M 17 2 60) 18 3 60) 19 4 60) 20 5 60) 21 6 3) 22 7 8) 23 8 8) 1 7 ((am_cp (am_cp (am_cp (am_cp (am_cp (am_cp (am_cp M 17 2 60) 18 3 60) 19 4 60) 20 5 60) 21 6 3) 22 7 8) 23 8 8) 16 7)) 16 8)) 16 9)) 16 10))
set_option maxRecDepth 20000 in
theorem tm_X2_copyFrom_1_16 {M : am_M} {Q : am_M → Prop} (h : wp_X2_copyFrom_1_16 M Q) : am_CC 1 4 [.inr (.inl (some 1)), .inr (.inl (some 16))] M (am_QV Q) (fun _ _ => False) := by
  refine ⟨Nat.le_of_ble_eq_true rfl, ?_⟩
  show am_W (am_CC 0) dt_X2_copyFrom 0 0 none (am_QV Q) (am_qx 4 (fun _ _ => False)) (0, 0, [(0, .inr (.inl (some 1))), (1, .inr (.inl (some 16)))], [], M)
  refine am_Wrun 72 (ps := [-128 ≤ (60 : Int) ∧ (60 : Int) ≤ 127, (0 : Int) = 0 ∧ (0 : Int) = 0 ∧ (0 : Int) ≤ 60 ∧ (60 : Int) ≤ 60 ∧ (60 : Int) ≤ 60 ∧ am_cs [] ≤ 8, -128 ≤ (60 : Int) ∧ (60 : Int) ≤ 127, (0 : Int) = 0 ∧ (0 : Int) = 0 ∧ (0 : Int) ≤ 60 ∧ (60 : Int) ≤ 60 ∧ (60 : Int) ≤ 60 ∧ am_cs [] ≤ 8, -128 ≤ (60 : Int) ∧ (60 : Int) ≤ 127, (0 : Int) = 0 ∧ (0 : Int) = 0 ∧ (0 : Int) ≤ 60 ∧ (60 : Int) ≤ 60 ∧ (60 : Int) ≤ 60 ∧ am_cs [] ≤ 8, -128 ≤ (60 : Int) ∧ (60 : Int) ≤ 127, (0 : Int) = 0 ∧ (0 : Int) = 0 ∧ (0 : Int) ≤ 60 ∧ (60 : Int) ≤ 60 ∧ (60 : Int) ≤ 60 ∧ am_cs [] ≤ 8, (0 : Int) = 0 ∧ (0 : Int) = 0 ∧ (0 : Int) ≤ 3 ∧ (3 : Int) ≤ 3 ∧ (3 : Int) ≤ 3 ∧ am_cs [] ≤ 8, -128 ≤ (8 : Int) ∧ (8 : Int) ≤ 127, (0 : Int) = 0 ∧ (0 : Int) = 0 ∧ (0 : Int) ≤ 8 ∧ (8 : Int) ≤ 8 ∧ (8 : Int) ≤ 8 ∧ am_cs [] ≤ 8, -128 ≤ (8 : Int) ∧ (8 : Int) ≤ 127, (0 : Int) = 0 ∧ (0 : Int) = 0 ∧ (0 : Int) ≤ 8 ∧ (8 : Int) ≤ 8 ∧ (8 : Int) ≤ 8 ∧ am_cs [] ≤ 8]) (pc' := 136) (lv' := [(0, .inr (.inl (some 1))), (1, .inr (.inl (some 16)))]) (st' := []) (M' := (am_up (am_up (am_up (am_up (am_cp (am_cp (am_cp (am_cp (am_cp (am_cp (am_cp M 17 2 60) 18 3 60) 19 4 60) 20 5 60) 21 6 3) 22 7 8) 23 8 8) 1 7 ((am_cp (am_cp (am_cp (am_cp (am_cp (am_cp (am_cp M 17 2 60) 18 3 60) 19 4 60) 20 5 60) 21 6 3) 22 7 8) 23 8 8) 16 7)) 1 8 ((am_up (am_cp (am_cp (am_cp (am_cp (am_cp (am_cp (am_cp M 17 2 60) 18 3 60) 19 4 60) 20 5 60) 21 6 3) 22 7 8) 23 8 8) 1 7 ((am_cp (am_cp (am_cp (am_cp (am_cp (am_cp (am_cp M 17 2 60) 18 3 60) 19 4 60) 20 5 60) 21 6 3) 22 7 8) 23 8 8) 16 7)) 16 8)) 1 9 ((am_up (am_up (am_cp (am_cp (am_cp (am_cp (am_cp (am_cp (am_cp M 17 2 60) 18 3 60) 19 4 60) 20 5 60) 21 6 3) 22 7 8) 23 8 8) 1 7 ((am_cp (am_cp (am_cp (am_cp (am_cp (am_cp (am_cp M 17 2 60) 18 3 60) 19 4 60) 20 5 60) 21 6 3) 22 7 8) 23 8 8) 16 7)) 1 8 ((am_up (am_cp (am_cp (am_cp (am_cp (am_cp (am_cp (am_cp M 17 2 60) 18 3 60) 19 4 60) 20 5 60) 21 6 3) 22 7 8) 23 8 8) 1 7 ((am_cp (am_cp (am_cp (am_cp (am_cp (am_cp (am_cp M 17 2 60) 18 3 60) 19 4 60) 20 5 60) 21 6 3) 22 7 8) 23 8 8) 16 7)) 16 8)) 16 9)) 1 10 ((am_up (am_up (am_up (am_cp (am_cp (am_cp (am_cp (am_cp (am_cp (am_cp M 17 2 60) 18 3 60) 19 4 60) 20 5 60) 21 6 3) 22 7 8) 23 8 8) 1 7 ((am_cp (am_cp (am_cp (am_cp (am_cp (am_cp (am_cp M 17 2 60) 18 3 60) 19 4 60) 20 5 60) 21 6 3) 22 7 8) 23 8 8) 16 7)) 1 8 ((am_up (am_cp (am_cp (am_cp (am_cp (am_cp (am_cp (am_cp M 17 2 60) 18 3 60) 19 4 60) 20 5 60) 21 6 3) 22 7 8) 23 8 8) 1 7 ((am_cp (am_cp (am_cp (am_cp (am_cp (am_cp (am_cp M 17 2 60) 18 3 60) 19 4 60) 20 5 60) 21 6 3) 22 7 8) 23 8 8) 16 7)) 16 8)) 1 9 ((am_up (am_up (am_cp (am_cp (am_cp (am_cp (am_cp (am_cp (am_cp M 17 2 60) 18 3 60) 19 4 60) 20 5 60) 21 6 3) 22 7 8) 23 8 8) 1 7 ((am_cp (am_cp (am_cp (am_cp (am_cp (am_cp (am_cp M 17 2 60) 18 3 60) 19 4 60) 20 5 60) 21 6 3) 22 7 8) 23 8 8) 16 7)) 1 8 ((am_up (am_cp (am_cp (am_cp (am_cp (am_cp (am_cp (am_cp M 17 2 60) 18 3 60) 19 4 60) 20 5 60) 21 6 3) 22 7 8) 23 8 8) 1 7 ((am_cp (am_cp (am_cp (am_cp (am_cp (am_cp (am_cp M 17 2 60) 18 3 60) 19 4 60) 20 5 60) 21 6 3) 22 7 8) 23 8 8) 16 7)) 16 8)) 16 9)) 16 10))) rfl ⟨⟨by decide, by decide⟩, ⟨rfl, rfl, by decide, by decide, by decide, by decide⟩, ⟨by decide, by decide⟩, ⟨rfl, rfl, by decide, by decide, by decide, by decide⟩, ⟨by decide, by decide⟩, ⟨rfl, rfl, by decide, by decide, by decide, by decide⟩, ⟨by decide, by decide⟩, ⟨rfl, rfl, by decide, by decide, by decide, by decide⟩, ⟨rfl, rfl, by decide, by decide, by decide, by decide⟩, ⟨by decide, by decide⟩, ⟨rfl, rfl, by decide, by decide, by decide, by decide⟩, ⟨by decide, by decide⟩, ⟨rfl, rfl, by decide, by decide, by decide, by decide⟩, trivial⟩ ?_
  exact am_Wretv rfl rfl h
def wp_X2_copyFrom_1_24 (M : am_M) (Q : am_M → Prop) : Prop := Q (am_up (am_up (am_up (am_up (am_cp (am_cp (am_cp (am_cp (am_cp (am_cp (am_cp M 25 2 60) 26 3 60) 27 4 60) 28 5 60) 29 6 3) 30 7 8) 31 8 8) 1 7 ((am_cp (am_cp (am_cp (am_cp (am_cp (am_cp (am_cp M 25 2 60) 26 3 60) 27 4 60) 28 5 60) 29 6 3) 30 7 8) 31 8 8) 24 7)) 1 8 ((am_up (am_cp (am_cp (am_cp (am_cp (am_cp (am_cp (am_cp M 25 2 60) 26 3 60) 27 4 60) 28 5 60) 29 6 3) 30 7 8) 31 8 8) 1 7 ((am_cp (am_cp (am_cp (am_cp (am_cp (am_cp (am_cp M 25 2 60) 26 3 60) 27 4 60) 28 5 60) 29 6 3) 30 7 8) 31 8 8) 24 7)) 24 8)) 1 9 ((am_up (am_up (am_cp (am_cp (am_cp (am_cp (am_cp (am_cp (am_cp M 25 2 60) 26 3 60) 27 4 60) 28 5 60) 29 6 3) 30 7 8) 31 8 8) 1 7 ((am_cp (am_cp (am_cp (am_cp (am_cp (am_cp (am_cp M 25 2 60) 26 3 60) 27 4 60) 28 5 60) 29 6 3) 30 7 8) 31 8 8) 24 7)) 1 8 ((am_up (am_cp (am_cp (am_cp (am_cp (am_cp (am_cp (am_cp M 25 2 60) 26 3 60) 27 4 60) 28 5 60) 29 6 3) 30 7 8) 31 8 8) 1 7 ((am_cp (am_cp (am_cp (am_cp (am_cp (am_cp (am_cp M 25 2 60) 26 3 60) 27 4 60) 28 5 60) 29 6 3) 30 7 8) 31 8 8) 24 7)) 24 8)) 24 9)) 1 10 ((am_up (am_up (am_up (am_cp (am_cp (am_cp (am_cp (am_cp (am_cp (am_cp M 25 2 60) 26 3 60) 27 4 60) 28 5 60) 29 6 3) 30 7 8) 31 8 8) 1 7 ((am_cp (am_cp (am_cp (am_cp (am_cp (am_cp (am_cp M 25 2 60) 26 3 60) 27 4 60) 28 5 60) 29 6 3) 30 7 8) 31 8 8) 24 7)) 1 8 ((am_up (am_cp (am_cp (am_cp (am_cp (am_cp (am_cp (am_cp M 25 2 60) 26 3 60) 27 4 60) 28 5 60) 29 6 3) 30 7 8) 31 8 8) 1 7 ((am_cp (am_cp (am_cp (am_cp (am_cp (am_cp (am_cp M 25 2 60) 26 3 60) 27 4 60) 28 5 60) 29 6 3) 30 7 8) 31 8 8) 24 7)) 24 8)) 1 9 ((am_up (am_up (am_cp (am_cp (am_cp (am_cp (am_cp (am_cp (am_cp M 25 2 60) 26 3 60) 27 4 60) 28 5 60) 29 6 3) 30 7 8) 31 8 8) 1 7 ((am_cp (am_cp (am_cp (am_cp (am_cp (am_cp (am_cp M 25 2 60) 26 3 60) 27 4 60) 28 5 60) 29 6 3) 30 7 8) 31 8 8) 24 7)) 1 8 ((am_up (am_cp (am_cp (am_cp (am_cp (am_cp (am_cp (am_cp M 25 2 60) 26 3 60) 27 4 60) 28 5 60) 29 6 3) 30 7 8) 31 8 8) 1 7 ((am_cp (am_cp (am_cp (am_cp (am_cp (am_cp (am_cp M 25 2 60) 26 3 60) 27 4 60) 28 5 60) 29 6 3) 30 7 8) 31 8 8) 24 7)) 24 8)) 24 9)) 24 10))
set_option maxRecDepth 20000 in
theorem tm_X2_copyFrom_1_24 {M : am_M} {Q : am_M → Prop} (h : wp_X2_copyFrom_1_24 M Q) : am_CC 1 4 [.inr (.inl (some 1)), .inr (.inl (some 24))] M (am_QV Q) (fun _ _ => False) := by
  refine ⟨Nat.le_of_ble_eq_true rfl, ?_⟩
  show am_W (am_CC 0) dt_X2_copyFrom 0 0 none (am_QV Q) (am_qx 4 (fun _ _ => False)) (0, 0, [(0, .inr (.inl (some 1))), (1, .inr (.inl (some 24)))], [], M)
  refine am_Wrun 72 (ps := [-128 ≤ (60 : Int) ∧ (60 : Int) ≤ 127, (0 : Int) = 0 ∧ (0 : Int) = 0 ∧ (0 : Int) ≤ 60 ∧ (60 : Int) ≤ 60 ∧ (60 : Int) ≤ 60 ∧ am_cs [] ≤ 8, -128 ≤ (60 : Int) ∧ (60 : Int) ≤ 127, (0 : Int) = 0 ∧ (0 : Int) = 0 ∧ (0 : Int) ≤ 60 ∧ (60 : Int) ≤ 60 ∧ (60 : Int) ≤ 60 ∧ am_cs [] ≤ 8, -128 ≤ (60 : Int) ∧ (60 : Int) ≤ 127, (0 : Int) = 0 ∧ (0 : Int) = 0 ∧ (0 : Int) ≤ 60 ∧ (60 : Int) ≤ 60 ∧ (60 : Int) ≤ 60 ∧ am_cs [] ≤ 8, -128 ≤ (60 : Int) ∧ (60 : Int) ≤ 127, (0 : Int) = 0 ∧ (0 : Int) = 0 ∧ (0 : Int) ≤ 60 ∧ (60 : Int) ≤ 60 ∧ (60 : Int) ≤ 60 ∧ am_cs [] ≤ 8, (0 : Int) = 0 ∧ (0 : Int) = 0 ∧ (0 : Int) ≤ 3 ∧ (3 : Int) ≤ 3 ∧ (3 : Int) ≤ 3 ∧ am_cs [] ≤ 8, -128 ≤ (8 : Int) ∧ (8 : Int) ≤ 127, (0 : Int) = 0 ∧ (0 : Int) = 0 ∧ (0 : Int) ≤ 8 ∧ (8 : Int) ≤ 8 ∧ (8 : Int) ≤ 8 ∧ am_cs [] ≤ 8, -128 ≤ (8 : Int) ∧ (8 : Int) ≤ 127, (0 : Int) = 0 ∧ (0 : Int) = 0 ∧ (0 : Int) ≤ 8 ∧ (8 : Int) ≤ 8 ∧ (8 : Int) ≤ 8 ∧ am_cs [] ≤ 8]) (pc' := 136) (lv' := [(0, .inr (.inl (some 1))), (1, .inr (.inl (some 24)))]) (st' := []) (M' := (am_up (am_up (am_up (am_up (am_cp (am_cp (am_cp (am_cp (am_cp (am_cp (am_cp M 25 2 60) 26 3 60) 27 4 60) 28 5 60) 29 6 3) 30 7 8) 31 8 8) 1 7 ((am_cp (am_cp (am_cp (am_cp (am_cp (am_cp (am_cp M 25 2 60) 26 3 60) 27 4 60) 28 5 60) 29 6 3) 30 7 8) 31 8 8) 24 7)) 1 8 ((am_up (am_cp (am_cp (am_cp (am_cp (am_cp (am_cp (am_cp M 25 2 60) 26 3 60) 27 4 60) 28 5 60) 29 6 3) 30 7 8) 31 8 8) 1 7 ((am_cp (am_cp (am_cp (am_cp (am_cp (am_cp (am_cp M 25 2 60) 26 3 60) 27 4 60) 28 5 60) 29 6 3) 30 7 8) 31 8 8) 24 7)) 24 8)) 1 9 ((am_up (am_up (am_cp (am_cp (am_cp (am_cp (am_cp (am_cp (am_cp M 25 2 60) 26 3 60) 27 4 60) 28 5 60) 29 6 3) 30 7 8) 31 8 8) 1 7 ((am_cp (am_cp (am_cp (am_cp (am_cp (am_cp (am_cp M 25 2 60) 26 3 60) 27 4 60) 28 5 60) 29 6 3) 30 7 8) 31 8 8) 24 7)) 1 8 ((am_up (am_cp (am_cp (am_cp (am_cp (am_cp (am_cp (am_cp M 25 2 60) 26 3 60) 27 4 60) 28 5 60) 29 6 3) 30 7 8) 31 8 8) 1 7 ((am_cp (am_cp (am_cp (am_cp (am_cp (am_cp (am_cp M 25 2 60) 26 3 60) 27 4 60) 28 5 60) 29 6 3) 30 7 8) 31 8 8) 24 7)) 24 8)) 24 9)) 1 10 ((am_up (am_up (am_up (am_cp (am_cp (am_cp (am_cp (am_cp (am_cp (am_cp M 25 2 60) 26 3 60) 27 4 60) 28 5 60) 29 6 3) 30 7 8) 31 8 8) 1 7 ((am_cp (am_cp (am_cp (am_cp (am_cp (am_cp (am_cp M 25 2 60) 26 3 60) 27 4 60) 28 5 60) 29 6 3) 30 7 8) 31 8 8) 24 7)) 1 8 ((am_up (am_cp (am_cp (am_cp (am_cp (am_cp (am_cp (am_cp M 25 2 60) 26 3 60) 27 4 60) 28 5 60) 29 6 3) 30 7 8) 31 8 8) 1 7 ((am_cp (am_cp (am_cp (am_cp (am_cp (am_cp (am_cp M 25 2 60) 26 3 60) 27 4 60) 28 5 60) 29 6 3) 30 7 8) 31 8 8) 24 7)) 24 8)) 1 9 ((am_up (am_up (am_cp (am_cp (am_cp (am_cp (am_cp (am_cp (am_cp M 25 2 60) 26 3 60) 27 4 60) 28 5 60) 29 6 3) 30 7 8) 31 8 8) 1 7 ((am_cp (am_cp (am_cp (am_cp (am_cp (am_cp (am_cp M 25 2 60) 26 3 60) 27 4 60) 28 5 60) 29 6 3) 30 7 8) 31 8 8) 24 7)) 1 8 ((am_up (am_cp (am_cp (am_cp (am_cp (am_cp (am_cp (am_cp M 25 2 60) 26 3 60) 27 4 60) 28 5 60) 29 6 3) 30 7 8) 31 8 8) 1 7 ((am_cp (am_cp (am_cp (am_cp (am_cp (am_cp (am_cp M 25 2 60) 26 3 60) 27 4 60) 28 5 60) 29 6 3) 30 7 8) 31 8 8) 24 7)) 24 8)) 24 9)) 24 10))) rfl ⟨⟨by decide, by decide⟩, ⟨rfl, rfl, by decide, by decide, by decide, by decide⟩, ⟨by decide, by decide⟩, ⟨rfl, rfl, by decide, by decide, by decide, by decide⟩, ⟨by decide, by decide⟩, ⟨rfl, rfl, by decide, by decide, by decide, by decide⟩, ⟨by decide, by decide⟩, ⟨rfl, rfl, by decide, by decide, by decide, by decide⟩, ⟨rfl, rfl, by decide, by decide, by decide, by decide⟩, ⟨by decide, by decide⟩, ⟨rfl, rfl, by decide, by decide, by decide, by decide⟩, ⟨by decide, by decide⟩, ⟨rfl, rfl, by decide, by decide, by decide, by decide⟩, trivial⟩ ?_
  exact am_Wretv rfl rfl h
def wp_X2_copyFrom_1_32 (M : am_M) (Q : am_M → Prop) : Prop := Q (am_up (am_up (am_up (am_up (am_cp (am_cp (am_cp (am_cp (am_cp (am_cp (am_cp M 33 2 60) 34 3 60) 35 4 60) 36 5 60) 37 6 3) 38 7 8) 39 8 8) 1 7 ((am_cp (am_cp (am_cp (am_cp (am_cp (am_cp (am_cp M 33 2 60) 34 3 60) 35 4 60) 36 5 60) 37 6 3) 38 7 8) 39 8 8) 32 7)) 1 8 ((am_up (am_cp (am_cp (am_cp (am_cp (am_cp (am_cp (am_cp M 33 2 60) 34 3 60) 35 4 60) 36 5 60) 37 6 3) 38 7 8) 39 8 8) 1 7 ((am_cp (am_cp (am_cp (am_cp (am_cp (am_cp (am_cp M 33 2 60) 34 3 60) 35 4 60) 36 5 60) 37 6 3) 38 7 8) 39 8 8) 32 7)) 32 8)) 1 9 ((am_up (am_up (am_cp (am_cp (am_cp (am_cp (am_cp (am_cp (am_cp M 33 2 60) 34 3 60) 35 4 60) 36 5 60) 37 6 3) 38 7 8) 39 8 8) 1 7 ((am_cp (am_cp (am_cp (am_cp (am_cp (am_cp (am_cp M 33 2 60) 34 3 60) 35 4 60) 36 5 60) 37 6 3) 38 7 8) 39 8 8) 32 7)) 1 8 ((am_up (am_cp (am_cp (am_cp (am_cp (am_cp (am_cp (am_cp M 33 2 60) 34 3 60) 35 4 60) 36 5 60) 37 6 3) 38 7 8) 39 8 8) 1 7 ((am_cp (am_cp (am_cp (am_cp (am_cp (am_cp (am_cp M 33 2 60) 34 3 60) 35 4 60) 36 5 60) 37 6 3) 38 7 8) 39 8 8) 32 7)) 32 8)) 32 9)) 1 10 ((am_up (am_up (am_up (am_cp (am_cp (am_cp (am_cp (am_cp (am_cp (am_cp M 33 2 60) 34 3 60) 35 4 60) 36 5 60) 37 6 3) 38 7 8) 39 8 8) 1 7 ((am_cp (am_cp (am_cp (am_cp (am_cp (am_cp (am_cp M 33 2 60) 34 3 60) 35 4 60) 36 5 60) 37 6 3) 38 7 8) 39 8 8) 32 7)) 1 8 ((am_up (am_cp (am_cp (am_cp (am_cp (am_cp (am_cp (am_cp M 33 2 60) 34 3 60) 35 4 60) 36 5 60) 37 6 3) 38 7 8) 39 8 8) 1 7 ((am_cp (am_cp (am_cp (am_cp (am_cp (am_cp (am_cp M 33 2 60) 34 3 60) 35 4 60) 36 5 60) 37 6 3) 38 7 8) 39 8 8) 32 7)) 32 8)) 1 9 ((am_up (am_up (am_cp (am_cp (am_cp (am_cp (am_cp (am_cp (am_cp M 33 2 60) 34 3 60) 35 4 60) 36 5 60) 37 6 3) 38 7 8) 39 8 8) 1 7 ((am_cp (am_cp (am_cp (am_cp (am_cp (am_cp (am_cp M 33 2 60) 34 3 60) 35 4 60) 36 5 60) 37 6 3) 38 7 8) 39 8 8) 32 7)) 1 8 ((am_up (am_cp (am_cp (am_cp (am_cp (am_cp (am_cp (am_cp M 33 2 60) 34 3 60) 35 4 60) 36 5 60) 37 6 3) 38 7 8) 39 8 8) 1 7 ((am_cp (am_cp (am_cp (am_cp (am_cp (am_cp (am_cp M 33 2 60) 34 3 60) 35 4 60) 36 5 60) 37 6 3) 38 7 8) 39 8 8) 32 7)) 32 8)) 32 9)) 32 10))
set_option maxRecDepth 20000 in
theorem tm_X2_copyFrom_1_32 {M : am_M} {Q : am_M → Prop} (h : wp_X2_copyFrom_1_32 M Q) : am_CC 1 4 [.inr (.inl (some 1)), .inr (.inl (some 32))] M (am_QV Q) (fun _ _ => False) := by
  refine ⟨Nat.le_of_ble_eq_true rfl, ?_⟩
  show am_W (am_CC 0) dt_X2_copyFrom 0 0 none (am_QV Q) (am_qx 4 (fun _ _ => False)) (0, 0, [(0, .inr (.inl (some 1))), (1, .inr (.inl (some 32)))], [], M)
  refine am_Wrun 72 (ps := [-128 ≤ (60 : Int) ∧ (60 : Int) ≤ 127, (0 : Int) = 0 ∧ (0 : Int) = 0 ∧ (0 : Int) ≤ 60 ∧ (60 : Int) ≤ 60 ∧ (60 : Int) ≤ 60 ∧ am_cs [] ≤ 8, -128 ≤ (60 : Int) ∧ (60 : Int) ≤ 127, (0 : Int) = 0 ∧ (0 : Int) = 0 ∧ (0 : Int) ≤ 60 ∧ (60 : Int) ≤ 60 ∧ (60 : Int) ≤ 60 ∧ am_cs [] ≤ 8, -128 ≤ (60 : Int) ∧ (60 : Int) ≤ 127, (0 : Int) = 0 ∧ (0 : Int) = 0 ∧ (0 : Int) ≤ 60 ∧ (60 : Int) ≤ 60 ∧ (60 : Int) ≤ 60 ∧ am_cs [] ≤ 8, -128 ≤ (60 : Int) ∧ (60 : Int) ≤ 127, (0 : Int) = 0 ∧ (0 : Int) = 0 ∧ (0 : Int) ≤ 60 ∧ (60 : Int) ≤ 60 ∧ (60 : Int) ≤ 60 ∧ am_cs [] ≤ 8, (0 : Int) = 0 ∧ (0 : Int) = 0 ∧ (0 : Int) ≤ 3 ∧ (3 : Int) ≤ 3 ∧ (3 : Int) ≤ 3 ∧ am_cs [] ≤ 8, -128 ≤ (8 : Int) ∧ (8 : Int) ≤ 127, (0 : Int) = 0 ∧ (0 : Int) = 0 ∧ (0 : Int) ≤ 8 ∧ (8 : Int) ≤ 8 ∧ (8 : Int) ≤ 8 ∧ am_cs [] ≤ 8, -128 ≤ (8 : Int) ∧ (8 : Int) ≤ 127, (0 : Int) = 0 ∧ (0 : Int) = 0 ∧ (0 : Int) ≤ 8 ∧ (8 : Int) ≤ 8 ∧ (8 : Int) ≤ 8 ∧ am_cs [] ≤ 8]) (pc' := 136) (lv' := [(0, .inr (.inl (some 1))), (1, .inr (.inl (some 32)))]) (st' := []) (M' := (am_up (am_up (am_up (am_up (am_cp (am_cp (am_cp (am_cp (am_cp (am_cp (am_cp M 33 2 60) 34 3 60) 35 4 60) 36 5 60) 37 6 3) 38 7 8) 39 8 8) 1 7 ((am_cp (am_cp (am_cp (am_cp (am_cp (am_cp (am_cp M 33 2 60) 34 3 60) 35 4 60) 36 5 60) 37 6 3) 38 7 8) 39 8 8) 32 7)) 1 8 ((am_up (am_cp (am_cp (am_cp (am_cp (am_cp (am_cp (am_cp M 33 2 60) 34 3 60) 35 4 60) 36 5 60) 37 6 3) 38 7 8) 39 8 8) 1 7 ((am_cp (am_cp (am_cp (am_cp (am_cp (am_cp (am_cp M 33 2 60) 34 3 60) 35 4 60) 36 5 60) 37 6 3) 38 7 8) 39 8 8) 32 7)) 32 8)) 1 9 ((am_up (am_up (am_cp (am_cp (am_cp (am_cp (am_cp (am_cp (am_cp M 33 2 60) 34 3 60) 35 4 60) 36 5 60) 37 6 3) 38 7 8) 39 8 8) 1 7 ((am_cp (am_cp (am_cp (am_cp (am_cp (am_cp (am_cp M 33 2 60) 34 3 60) 35 4 60) 36 5 60) 37 6 3) 38 7 8) 39 8 8) 32 7)) 1 8 ((am_up (am_cp (am_cp (am_cp (am_cp (am_cp (am_cp (am_cp M 33 2 60) 34 3 60) 35 4 60) 36 5 60) 37 6 3) 38 7 8) 39 8 8) 1 7 ((am_cp (am_cp (am_cp (am_cp (am_cp (am_cp (am_cp M 33 2 60) 34 3 60) 35 4 60) 36 5 60) 37 6 3) 38 7 8) 39 8 8) 32 7)) 32 8)) 32 9)) 1 10 ((am_up (am_up (am_up (am_cp (am_cp (am_cp (am_cp (am_cp (am_cp (am_cp M 33 2 60) 34 3 60) 35 4 60) 36 5 60) 37 6 3) 38 7 8) 39 8 8) 1 7 ((am_cp (am_cp (am_cp (am_cp (am_cp (am_cp (am_cp M 33 2 60) 34 3 60) 35 4 60) 36 5 60) 37 6 3) 38 7 8) 39 8 8) 32 7)) 1 8 ((am_up (am_cp (am_cp (am_cp (am_cp (am_cp (am_cp (am_cp M 33 2 60) 34 3 60) 35 4 60) 36 5 60) 37 6 3) 38 7 8) 39 8 8) 1 7 ((am_cp (am_cp (am_cp (am_cp (am_cp (am_cp (am_cp M 33 2 60) 34 3 60) 35 4 60) 36 5 60) 37 6 3) 38 7 8) 39 8 8) 32 7)) 32 8)) 1 9 ((am_up (am_up (am_cp (am_cp (am_cp (am_cp (am_cp (am_cp (am_cp M 33 2 60) 34 3 60) 35 4 60) 36 5 60) 37 6 3) 38 7 8) 39 8 8) 1 7 ((am_cp (am_cp (am_cp (am_cp (am_cp (am_cp (am_cp M 33 2 60) 34 3 60) 35 4 60) 36 5 60) 37 6 3) 38 7 8) 39 8 8) 32 7)) 1 8 ((am_up (am_cp (am_cp (am_cp (am_cp (am_cp (am_cp (am_cp M 33 2 60) 34 3 60) 35 4 60) 36 5 60) 37 6 3) 38 7 8) 39 8 8) 1 7 ((am_cp (am_cp (am_cp (am_cp (am_cp (am_cp (am_cp M 33 2 60) 34 3 60) 35 4 60) 36 5 60) 37 6 3) 38 7 8) 39 8 8) 32 7)) 32 8)) 32 9)) 32 10))) rfl ⟨⟨by decide, by decide⟩, ⟨rfl, rfl, by decide, by decide, by decide, by decide⟩, ⟨by decide, by decide⟩, ⟨rfl, rfl, by decide, by decide, by decide, by decide⟩, ⟨by decide, by decide⟩, ⟨rfl, rfl, by decide, by decide, by decide, by decide⟩, ⟨by decide, by decide⟩, ⟨rfl, rfl, by decide, by decide, by decide, by decide⟩, ⟨rfl, rfl, by decide, by decide, by decide, by decide⟩, ⟨by decide, by decide⟩, ⟨rfl, rfl, by decide, by decide, by decide, by decide⟩, ⟨by decide, by decide⟩, ⟨rfl, rfl, by decide, by decide, by decide, by decide⟩, trivial⟩ ?_
  exact am_Wretv rfl rfl h
def wp_X2_copyFrom_1_40 (M : am_M) (Q : am_M → Prop) : Prop := Q (am_up (am_up (am_up (am_up (am_cp (am_cp (am_cp (am_cp (am_cp (am_cp (am_cp M 41 2 60) 42 3 60) 43 4 60) 44 5 60) 45 6 3) 46 7 8) 47 8 8) 1 7 ((am_cp (am_cp (am_cp (am_cp (am_cp (am_cp (am_cp M 41 2 60) 42 3 60) 43 4 60) 44 5 60) 45 6 3) 46 7 8) 47 8 8) 40 7)) 1 8 ((am_up (am_cp (am_cp (am_cp (am_cp (am_cp (am_cp (am_cp M 41 2 60) 42 3 60) 43 4 60) 44 5 60) 45 6 3) 46 7 8) 47 8 8) 1 7 ((am_cp (am_cp (am_cp (am_cp (am_cp (am_cp (am_cp M 41 2 60) 42 3 60) 43 4 60) 44 5 60) 45 6 3) 46 7 8) 47 8 8) 40 7)) 40 8)) 1 9 ((am_up (am_up (am_cp (am_cp (am_cp (am_cp (am_cp (am_cp (am_cp M 41 2 60) 42 3 60) 43 4 60) 44 5 60) 45 6 3) 46 7 8) 47 8 8) 1 7 ((am_cp (am_cp (am_cp (am_cp (am_cp (am_cp (am_cp M 41 2 60) 42 3 60) 43 4 60) 44 5 60) 45 6 3) 46 7 8) 47 8 8) 40 7)) 1 8 ((am_up (am_cp (am_cp (am_cp (am_cp (am_cp (am_cp (am_cp M 41 2 60) 42 3 60) 43 4 60) 44 5 60) 45 6 3) 46 7 8) 47 8 8) 1 7 ((am_cp (am_cp (am_cp (am_cp (am_cp (am_cp (am_cp M 41 2 60) 42 3 60) 43 4 60) 44 5 60) 45 6 3) 46 7 8) 47 8 8) 40 7)) 40 8)) 40 9)) 1 10 ((am_up (am_up (am_up (am_cp (am_cp (am_cp (am_cp (am_cp (am_cp (am_cp M 41 2 60) 42 3 60) 43 4 60) 44 5 60) 45 6 3) 46 7 8) 47 8 8) 1 7 ((am_cp (am_cp (am_cp (am_cp (am_cp (am_cp (am_cp M 41 2 60) 42 3 60) 43 4 60) 44 5 60) 45 6 3) 46 7 8) 47 8 8) 40 7)) 1 8 ((am_up (am_cp (am_cp (am_cp (am_cp (am_cp (am_cp (am_cp M 41 2 60) 42 3 60) 43 4 60) 44 5 60) 45 6 3) 46 7 8) 47 8 8) 1 7 ((am_cp (am_cp (am_cp (am_cp (am_cp (am_cp (am_cp M 41 2 60) 42 3 60) 43 4 60) 44 5 60) 45 6 3) 46 7 8) 47 8 8) 40 7)) 40 8)) 1 9 ((am_up (am_up (am_cp (am_cp (am_cp (am_cp (am_cp (am_cp (am_cp M 41 2 60) 42 3 60) 43 4 60) 44 5 60) 45 6 3) 46 7 8) 47 8 8) 1 7 ((am_cp (am_cp (am_cp (am_cp (am_cp (am_cp (am_cp M 41 2 60) 42 3 60) 43 4 60) 44 5 60) 45 6 3) 46 7 8) 47 8 8) 40 7)) 1 8 ((am_up (am_cp (am_cp (am_cp (am_cp (am_cp (am_cp (am_cp M 41 2 60) 42 3 60) 43 4 60) 44 5 60) 45 6 3) 46 7 8) 47 8 8) 1 7 ((am_cp (am_cp (am_cp (am_cp (am_cp (am_cp (am_cp M 41 2 60) 42 3 60) 43 4 60) 44 5 60) 45 6 3) 46 7 8) 47 8 8) 40 7)) 40 8)) 40 9)) 40 10))
set_option maxRecDepth 20000 in
theorem tm_X2_copyFrom_1_40 {M : am_M} {Q : am_M → Prop} (h : wp_X2_copyFrom_1_40 M Q) : am_CC 1 4 [.inr (.inl (some 1)), .inr (.inl (some 40))] M (am_QV Q) (fun _ _ => False) := by
  refine ⟨Nat.le_of_ble_eq_true rfl, ?_⟩
  show am_W (am_CC 0) dt_X2_copyFrom 0 0 none (am_QV Q) (am_qx 4 (fun _ _ => False)) (0, 0, [(0, .inr (.inl (some 1))), (1, .inr (.inl (some 40)))], [], M)
  refine am_Wrun 72 (ps := [-128 ≤ (60 : Int) ∧ (60 : Int) ≤ 127, (0 : Int) = 0 ∧ (0 : Int) = 0 ∧ (0 : Int) ≤ 60 ∧ (60 : Int) ≤ 60 ∧ (60 : Int) ≤ 60 ∧ am_cs [] ≤ 8, -128 ≤ (60 : Int) ∧ (60 : Int) ≤ 127, (0 : Int) = 0 ∧ (0 : Int) = 0 ∧ (0 : Int) ≤ 60 ∧ (60 : Int) ≤ 60 ∧ (60 : Int) ≤ 60 ∧ am_cs [] ≤ 8, -128 ≤ (60 : Int) ∧ (60 : Int) ≤ 127, (0 : Int) = 0 ∧ (0 : Int) = 0 ∧ (0 : Int) ≤ 60 ∧ (60 : Int) ≤ 60 ∧ (60 : Int) ≤ 60 ∧ am_cs [] ≤ 8, -128 ≤ (60 : Int) ∧ (60 : Int) ≤ 127, (0 : Int) = 0 ∧ (0 : Int) = 0 ∧ (0 : Int) ≤ 60 ∧ (60 : Int) ≤ 60 ∧ (60 : Int) ≤ 60 ∧ am_cs [] ≤ 8, (0 : Int) = 0 ∧ (0 : Int) = 0 ∧ (0 : Int) ≤ 3 ∧ (3 : Int) ≤ 3 ∧ (3 : Int) ≤ 3 ∧ am_cs [] ≤ 8, -128 ≤ (8 : Int) ∧ (8 : Int) ≤ 127, (0 : Int) = 0 ∧ (0 : Int) = 0 ∧ (0 : Int) ≤ 8 ∧ (8 : Int) ≤ 8 ∧ (8 : Int) ≤ 8 ∧ am_cs [] ≤ 8, -128 ≤ (8 : Int) ∧ (8 : Int) ≤ 127, (0 : Int) = 0 ∧ (0 : Int) = 0 ∧ (0 : Int) ≤ 8 ∧ (8 : Int) ≤ 8 ∧ (8 : Int) ≤ 8 ∧ am_cs [] ≤ 8]) (pc' := 136) (lv' := [(0, .inr (.inl (some 1))), (1, .inr (.inl (some 40)))]) (st' := []) (M' := (am_up (am_up (am_up (am_up (am_cp (am_cp (am_cp (am_cp (am_cp (am_cp (am_cp M 41 2 60) 42 3 60) 43 4 60) 44 5 60) 45 6 3) 46 7 8) 47 8 8) 1 7 ((am_cp (am_cp (am_cp (am_cp (am_cp (am_cp (am_cp M 41 2 60) 42 3 60) 43 4 60) 44 5 60) 45 6 3) 46 7 8) 47 8 8) 40 7)) 1 8 ((am_up (am_cp (am_cp (am_cp (am_cp (am_cp (am_cp (am_cp M 41 2 60) 42 3 60) 43 4 60) 44 5 60) 45 6 3) 46 7 8) 47 8 8) 1 7 ((am_cp (am_cp (am_cp (am_cp (am_cp (am_cp (am_cp M 41 2 60) 42 3 60) 43 4 60) 44 5 60) 45 6 3) 46 7 8) 47 8 8) 40 7)) 40 8)) 1 9 ((am_up (am_up (am_cp (am_cp (am_cp (am_cp (am_cp (am_cp (am_cp M 41 2 60) 42 3 60) 43 4 60) 44 5 60) 45 6 3) 46 7 8) 47 8 8) 1 7 ((am_cp (am_cp (am_cp (am_cp (am_cp (am_cp (am_cp M 41 2 60) 42 3 60) 43 4 60) 44 5 60) 45 6 3) 46 7 8) 47 8 8) 40 7)) 1 8 ((am_up (am_cp (am_cp (am_cp (am_cp (am_cp (am_cp (am_cp M 41 2 60) 42 3 60) 43 4 60) 44 5 60) 45 6 3) 46 7 8) 47 8 8) 1 7 ((am_cp (am_cp (am_cp (am_cp (am_cp (am_cp (am_cp M 41 2 60) 42 3 60) 43 4 60) 44 5 60) 45 6 3) 46 7 8) 47 8 8) 40 7)) 40 8)) 40 9)) 1 10 ((am_up (am_up (am_up (am_cp (am_cp (am_cp (am_cp (am_cp (am_cp (am_cp M 41 2 60) 42 3 60) 43 4 60) 44 5 60) 45 6 3) 46 7 8) 47 8 8) 1 7 ((am_cp (am_cp (am_cp (am_cp (am_cp (am_cp (am_cp M 41 2 60) 42 3 60) 43 4 60) 44 5 60) 45 6 3) 46 7 8) 47 8 8) 40 7)) 1 8 ((am_up (am_cp (am_cp (am_cp (am_cp (am_cp (am_cp (am_cp M 41 2 60) 42 3 60) 43 4 60) 44 5 60) 45 6 3) 46 7 8) 47 8 8) 1 7 ((am_cp (am_cp (am_cp (am_cp (am_cp (am_cp (am_cp M 41 2 60) 42 3 60) 43 4 60) 44 5 60) 45 6 3) 46 7 8) 47 8 8) 40 7)) 40 8)) 1 9 ((am_up (am_up (am_cp (am_cp (am_cp (am_cp (am_cp (am_cp (am_cp M 41 2 60) 42 3 60) 43 4 60) 44 5 60) 45 6 3) 46 7 8) 47 8 8) 1 7 ((am_cp (am_cp (am_cp (am_cp (am_cp (am_cp (am_cp M 41 2 60) 42 3 60) 43 4 60) 44 5 60) 45 6 3) 46 7 8) 47 8 8) 40 7)) 1 8 ((am_up (am_cp (am_cp (am_cp (am_cp (am_cp (am_cp (am_cp M 41 2 60) 42 3 60) 43 4 60) 44 5 60) 45 6 3) 46 7 8) 47 8 8) 1 7 ((am_cp (am_cp (am_cp (am_cp (am_cp (am_cp (am_cp M 41 2 60) 42 3 60) 43 4 60) 44 5 60) 45 6 3) 46 7 8) 47 8 8) 40 7)) 40 8)) 40 9)) 40 10))) rfl ⟨⟨by decide, by decide⟩, ⟨rfl, rfl, by decide, by decide, by decide, by decide⟩, ⟨by decide, by decide⟩, ⟨rfl, rfl, by decide, by decide, by decide, by decide⟩, ⟨by decide, by decide⟩, ⟨rfl, rfl, by decide, by decide, by decide, by decide⟩, ⟨by decide, by decide⟩, ⟨rfl, rfl, by decide, by decide, by decide, by decide⟩, ⟨rfl, rfl, by decide, by decide, by decide, by decide⟩, ⟨by decide, by decide⟩, ⟨rfl, rfl, by decide, by decide, by decide, by decide⟩, ⟨by decide, by decide⟩, ⟨rfl, rfl, by decide, by decide, by decide, by decide⟩, trivial⟩ ?_
  exact am_Wretv rfl rfl h
def wp_X2_copyFrom_1_48 (M : am_M) (Q : am_M → Prop) : Prop := Q (am_up (am_up (am_up (am_up (am_cp (am_cp (am_cp (am_cp (am_cp (am_cp (am_cp M 49 2 60) 50 3 60) 51 4 60) 52 5 60) 53 6 3) 54 7 8) 55 8 8) 1 7 ((am_cp (am_cp (am_cp (am_cp (am_cp (am_cp (am_cp M 49 2 60) 50 3 60) 51 4 60) 52 5 60) 53 6 3) 54 7 8) 55 8 8) 48 7)) 1 8 ((am_up (am_cp (am_cp (am_cp (am_cp (am_cp (am_cp (am_cp M 49 2 60) 50 3 60) 51 4 60) 52 5 60) 53 6 3) 54 7 8) 55 8 8) 1 7 ((am_cp (am_cp (am_cp (am_cp (am_cp (am_cp (am_cp M 49 2 60) 50 3 60) 51 4 60) 52 5 60) 53 6 3) 54 7 8) 55 8 8) 48 7)) 48 8)) 1 9 ((am_up (am_up (am_cp (am_cp (am_cp (am_cp (am_cp (am_cp (am_cp M 49 2 60) 50 3 60) 51 4 60) 52 5 60) 53 6 3) 54 7 8) 55 8 8) 1 7 ((am_cp (am_cp (am_cp (am_cp (am_cp (am_cp (am_cp M 49 2 60) 50 3 60) 51 4 60) 52 5 60) 53 6 3) 54 7 8) 55 8 8) 48 7)) 1 8 ((am_up (am_cp (am_cp (am_cp (am_cp (am_cp (am_cp (am_cp M 49 2 60) 50 3 60) 51 4 60) 52 5 60) 53 6 3) 54 7 8) 55 8 8) 1 7 ((am_cp (am_cp (am_cp (am_cp (am_cp (am_cp (am_cp M 49 2 60) 50 3 60) 51 4 60) 52 5 60) 53 6 3) 54 7 8) 55 8 8) 48 7)) 48 8)) 48 9)) 1 10 ((am_up (am_up (am_up (am_cp (am_cp (am_cp (am_cp (am_cp (am_cp (am_cp M 49 2 60) 50 3 60) 51 4 60) 52 5 60) 53 6 3) 54 7 8) 55 8 8) 1 7 ((am_cp (am_cp (am_cp (am_cp (am_cp (am_cp (am_cp M 49 2 60) 50 3 60) 51 4 60) 52 5 60) 53 6 3) 54 7 8) 55 8 8) 48 7)) 1 8 ((am_up (am_cp (am_cp (am_cp (am_cp (am_cp (am_cp (am_cp M 49 2 60) 50 3 60) 51 4 60) 52 5 60) 53 6 3) 54 7 8) 55 8 8) 1 7 ((am_cp (am_cp (am_cp (am_cp (am_cp (am_cp (am_cp M 49 2 60) 50 3 60) 51 4 60) 52 5 60) 53 6 3) 54 7 8) 55 8 8) 48 7)) 48 8)) 1 9 ((am_up (am_up (am_cp (am_cp (am_cp (am_cp (am_cp (am_cp (am_cp M 49 2 60) 50 3 60) 51 4 60) 52 5 60) 53 6 3) 54 7 8) 55 8 8) 1 7 ((am_cp (am_cp (am_cp (am_cp (am_cp (am_cp (am_cp M 49 2 60) 50 3 60) 51 4 60) 52 5 60) 53 6 3) 54 7 8) 55 8 8) 48 7)) 1 8 ((am_up (am_cp (am_cp (am_cp (am_cp (am_cp (am_cp (am_cp M 49 2 60) 50 3 60) 51 4 60) 52 5 60) 53 6 3) 54 7 8) 55 8 8) 1 7 ((am_cp (am_cp (am_cp (am_cp (am_cp (am_cp (am_cp M 49 2 60) 50 3 60) 51 4 60) 52 5 60) 53 6 3) 54 7 8) 55 8 8) 48 7)) 48 8)) 48 9)) 48 10))
set_option maxRecDepth 20000 in
theorem tm_X2_copyFrom_1_48 {M : am_M} {Q : am_M → Prop} (h : wp_X2_copyFrom_1_48 M Q) : am_CC 1 4 [.inr (.inl (some 1)), .inr (.inl (some 48))] M (am_QV Q) (fun _ _ => False) := by
  refine ⟨Nat.le_of_ble_eq_true rfl, ?_⟩
  show am_W (am_CC 0) dt_X2_copyFrom 0 0 none (am_QV Q) (am_qx 4 (fun _ _ => False)) (0, 0, [(0, .inr (.inl (some 1))), (1, .inr (.inl (some 48)))], [], M)
  refine am_Wrun 72 (ps := [-128 ≤ (60 : Int) ∧ (60 : Int) ≤ 127, (0 : Int) = 0 ∧ (0 : Int) = 0 ∧ (0 : Int) ≤ 60 ∧ (60 : Int) ≤ 60 ∧ (60 : Int) ≤ 60 ∧ am_cs [] ≤ 8, -128 ≤ (60 : Int) ∧ (60 : Int) ≤ 127, (0 : Int) = 0 ∧ (0 : Int) = 0 ∧ (0 : Int) ≤ 60 ∧ (60 : Int) ≤ 60 ∧ (60 : Int) ≤ 60 ∧ am_cs [] ≤ 8, -128 ≤ (60 : Int) ∧ (60 : Int) ≤ 127, (0 : Int) = 0 ∧ (0 : Int) = 0 ∧ (0 : Int) ≤ 60 ∧ (60 : Int) ≤ 60 ∧ (60 : Int) ≤ 60 ∧ am_cs [] ≤ 8, -128 ≤ (60 : Int) ∧ (60 : Int) ≤ 127, (0 : Int) = 0 ∧ (0 : Int) = 0 ∧ (0 : Int) ≤ 60 ∧ (60 : Int) ≤ 60 ∧ (60 : Int) ≤ 60 ∧ am_cs [] ≤ 8, (0 : Int) = 0 ∧ (0 : Int) = 0 ∧ (0 : Int) ≤ 3 ∧ (3 : Int) ≤ 3 ∧ (3 : Int) ≤ 3 ∧ am_cs [] ≤ 8, -128 ≤ (8 : Int) ∧ (8 : Int) ≤ 127, (0 : Int) = 0 ∧ (0 : Int) = 0 ∧ (0 : Int) ≤ 8 ∧ (8 : Int) ≤ 8 ∧ (8 : Int) ≤ 8 ∧ am_cs [] ≤ 8, -128 ≤ (8 : Int) ∧ (8 : Int) ≤ 127, (0 : Int) = 0 ∧ (0 : Int) = 0 ∧ (0 : Int) ≤ 8 ∧ (8 : Int) ≤ 8 ∧ (8 : Int) ≤ 8 ∧ am_cs [] ≤ 8]) (pc' := 136) (lv' := [(0, .inr (.inl (some 1))), (1, .inr (.inl (some 48)))]) (st' := []) (M' := (am_up (am_up (am_up (am_up (am_cp (am_cp (am_cp (am_cp (am_cp (am_cp (am_cp M 49 2 60) 50 3 60) 51 4 60) 52 5 60) 53 6 3) 54 7 8) 55 8 8) 1 7 ((am_cp (am_cp (am_cp (am_cp (am_cp (am_cp (am_cp M 49 2 60) 50 3 60) 51 4 60) 52 5 60) 53 6 3) 54 7 8) 55 8 8) 48 7)) 1 8 ((am_up (am_cp (am_cp (am_cp (am_cp (am_cp (am_cp (am_cp M 49 2 60) 50 3 60) 51 4 60) 52 5 60) 53 6 3) 54 7 8) 55 8 8) 1 7 ((am_cp (am_cp (am_cp (am_cp (am_cp (am_cp (am_cp M 49 2 60) 50 3 60) 51 4 60) 52 5 60) 53 6 3) 54 7 8) 55 8 8) 48 7)) 48 8)) 1 9 ((am_up (am_up (am_cp (am_cp (am_cp (am_cp (am_cp (am_cp (am_cp M 49 2 60) 50 3 60) 51 4 60) 52 5 60) 53 6 3) 54 7 8) 55 8 8) 1 7 ((am_cp (am_cp (am_cp (am_cp (am_cp (am_cp (am_cp M 49 2 60) 50 3 60) 51 4 60) 52 5 60) 53 6 3) 54 7 8) 55 8 8) 48 7)) 1 8 ((am_up (am_cp (am_cp (am_cp (am_cp (am_cp (am_cp (am_cp M 49 2 60) 50 3 60) 51 4 60) 52 5 60) 53 6 3) 54 7 8) 55 8 8) 1 7 ((am_cp (am_cp (am_cp (am_cp (am_cp (am_cp (am_cp M 49 2 60) 50 3 60) 51 4 60) 52 5 60) 53 6 3) 54 7 8) 55 8 8) 48 7)) 48 8)) 48 9)) 1 10 ((am_up (am_up (am_up (am_cp (am_cp (am_cp (am_cp (am_cp (am_cp (am_cp M 49 2 60) 50 3 60) 51 4 60) 52 5 60) 53 6 3) 54 7 8) 55 8 8) 1 7 ((am_cp (am_cp (am_cp (am_cp (am_cp (am_cp (am_cp M 49 2 60) 50 3 60) 51 4 60) 52 5 60) 53 6 3) 54 7 8) 55 8 8) 48 7)) 1 8 ((am_up (am_cp (am_cp (am_cp (am_cp (am_cp (am_cp (am_cp M 49 2 60) 50 3 60) 51 4 60) 52 5 60) 53 6 3) 54 7 8) 55 8 8) 1 7 ((am_cp (am_cp (am_cp (am_cp (am_cp (am_cp (am_cp M 49 2 60) 50 3 60) 51 4 60) 52 5 60) 53 6 3) 54 7 8) 55 8 8) 48 7)) 48 8)) 1 9 ((am_up (am_up (am_cp (am_cp (am_cp (am_cp (am_cp (am_cp (am_cp M 49 2 60) 50 3 60) 51 4 60) 52 5 60) 53 6 3) 54 7 8) 55 8 8) 1 7 ((am_cp (am_cp (am_cp (am_cp (am_cp (am_cp (am_cp M 49 2 60) 50 3 60) 51 4 60) 52 5 60) 53 6 3) 54 7 8) 55 8 8) 48 7)) 1 8 ((am_up (am_cp (am_cp (am_cp (am_cp (am_cp (am_cp (am_cp M 49 2 60) 50 3 60) 51 4 60) 52 5 60) 53 6 3) 54 7 8) 55 8 8) 1 7 ((am_cp (am_cp (am_cp (am_cp (am_cp (am_cp (am_cp M 49 2 60) 50 3 60) 51 4 60) 52 5 60) 53 6 3) 54 7 8) 55 8 8) 48 7)) 48 8)) 48 9)) 48 10))) rfl ⟨⟨by decide, by decide⟩, ⟨rfl, rfl, by decide, by decide, by decide, by decide⟩, ⟨by decide, by decide⟩, ⟨rfl, rfl, by decide, by decide, by decide, by decide⟩, ⟨by decide, by decide⟩, ⟨rfl, rfl, by decide, by decide, by decide, by decide⟩, ⟨by decide, by decide⟩, ⟨rfl, rfl, by decide, by decide, by decide, by decide⟩, ⟨rfl, rfl, by decide, by decide, by decide, by decide⟩, ⟨by decide, by decide⟩, ⟨rfl, rfl, by decide, by decide, by decide, by decide⟩, ⟨by decide, by decide⟩, ⟨rfl, rfl, by decide, by decide, by decide, by decide⟩, trivial⟩ ?_
  exact am_Wretv rfl rfl h
def wp_X2_copyFrom_1_56 (M : am_M) (Q : am_M → Prop) : Prop := Q (am_up (am_up (am_up (am_up (am_cp (am_cp (am_cp (am_cp (am_cp (am_cp (am_cp M 57 2 60) 58 3 60) 59 4 60) 60 5 60) 61 6 3) 62 7 8) 63 8 8) 1 7 ((am_cp (am_cp (am_cp (am_cp (am_cp (am_cp (am_cp M 57 2 60) 58 3 60) 59 4 60) 60 5 60) 61 6 3) 62 7 8) 63 8 8) 56 7)) 1 8 ((am_up (am_cp (am_cp (am_cp (am_cp (am_cp (am_cp (am_cp M 57 2 60) 58 3 60) 59 4 60) 60 5 60) 61 6 3) 62 7 8) 63 8 8) 1 7 ((am_cp (am_cp (am_cp (am_cp (am_cp (am_cp (am_cp M 57 2 60) 58 3 60) 59 4 60) 60 5 60) 61 6 3) 62 7 8) 63 8 8) 56 7)) 56 8)) 1 9 ((am_up (am_up (am_cp (am_cp (am_cp (am_cp (am_cp (am_cp (am_cp M 57 2 60) 58 3 60) 59 4 60) 60 5 60) 61 6 3) 62 7 8) 63 8 8) 1 7 ((am_cp (am_cp (am_cp (am_cp (am_cp (am_cp (am_cp M 57 2 60) 58 3 60) 59 4 60) 60 5 60) 61 6 3) 62 7 8) 63 8 8) 56 7)) 1 8 ((am_up (am_cp (am_cp (am_cp (am_cp (am_cp (am_cp (am_cp M 57 2 60) 58 3 60) 59 4 60) 60 5 60) 61 6 3) 62 7 8) 63 8 8) 1 7 ((am_cp (am_cp (am_cp (am_cp (am_cp (am_cp (am_cp M 57 2 60) 58 3 60) 59 4 60) 60 5 60) 61 6 3) 62 7 8) 63 8 8) 56 7)) 56 8)) 56 9)) 1 10 ((am_up (am_up (am_up (am_cp (am_cp (am_cp (am_cp (am_cp (am_cp (am_cp M 57 2 60) 58 3 60) 59 4 60) 60 5 60) 61 6 3) 62 7 8) 63 8 8) 1 7 ((am_cp (am_cp (am_cp (am_cp (am_cp (am_cp (am_cp M 57 2 60) 58 3 60) 59 4 60) 60 5 60) 61 6 3) 62 7 8) 63 8 8) 56 7)) 1 8 ((am_up (am_cp (am_cp (am_cp (am_cp (am_cp (am_cp (am_cp M 57 2 60) 58 3 60) 59 4 60) 60 5 60) 61 6 3) 62 7 8) 63 8 8) 1 7 ((am_cp (am_cp (am_cp (am_cp (am_cp (am_cp (am_cp M 57 2 60) 58 3 60) 59 4 60) 60 5 60) 61 6 3) 62 7 8) 63 8 8) 56 7)) 56 8)) 1 9 ((am_up (am_up (am_cp (am_cp (am_cp (am_cp (am_cp (am_cp (am_cp M 57 2 60) 58 3 60) 59 4 60) 60 5 60) 61 6 3) 62 7 8) 63 8 8) 1 7 ((am_cp (am_cp (am_cp (am_cp (am_cp (am_cp (am_cp M 57 2 60) 58 3 60) 59 4 60) 60 5 60) 61 6 3) 62 7 8) 63 8 8) 56 7)) 1 8 ((am_up (am_cp (am_cp (am_cp (am_cp (am_cp (am_cp (am_cp M 57 2 60) 58 3 60) 59 4 60) 60 5 60) 61 6 3) 62 7 8) 63 8 8) 1 7 ((am_cp (am_cp (am_cp (am_cp (am_cp (am_cp (am_cp M 57 2 60) 58 3 60) 59 4 60) 60 5 60) 61 6 3) 62 7 8) 63 8 8) 56 7)) 56 8)) 56 9)) 56 10))
set_option maxRecDepth 20000 in
theorem tm_X2_copyFrom_1_56 {M : am_M} {Q : am_M → Prop} (h : wp_X2_copyFrom_1_56 M Q) : am_CC 1 4 [.inr (.inl (some 1)), .inr (.inl (some 56))] M (am_QV Q) (fun _ _ => False) := by
  refine ⟨Nat.le_of_ble_eq_true rfl, ?_⟩
  show am_W (am_CC 0) dt_X2_copyFrom 0 0 none (am_QV Q) (am_qx 4 (fun _ _ => False)) (0, 0, [(0, .inr (.inl (some 1))), (1, .inr (.inl (some 56)))], [], M)
  refine am_Wrun 72 (ps := [-128 ≤ (60 : Int) ∧ (60 : Int) ≤ 127, (0 : Int) = 0 ∧ (0 : Int) = 0 ∧ (0 : Int) ≤ 60 ∧ (60 : Int) ≤ 60 ∧ (60 : Int) ≤ 60 ∧ am_cs [] ≤ 8, -128 ≤ (60 : Int) ∧ (60 : Int) ≤ 127, (0 : Int) = 0 ∧ (0 : Int) = 0 ∧ (0 : Int) ≤ 60 ∧ (60 : Int) ≤ 60 ∧ (60 : Int) ≤ 60 ∧ am_cs [] ≤ 8, -128 ≤ (60 : Int) ∧ (60 : Int) ≤ 127, (0 : Int) = 0 ∧ (0 : Int) = 0 ∧ (0 : Int) ≤ 60 ∧ (60 : Int) ≤ 60 ∧ (60 : Int) ≤ 60 ∧ am_cs [] ≤ 8, -128 ≤ (60 : Int) ∧ (60 : Int) ≤ 127, (0 : Int) = 0 ∧ (0 : Int) = 0 ∧ (0 : Int) ≤ 60 ∧ (60 : Int) ≤ 60 ∧ (60 : Int) ≤ 60 ∧ am_cs [] ≤ 8, (0 : Int) = 0 ∧ (0 : Int) = 0 ∧ (0 : Int) ≤ 3 ∧ (3 : Int) ≤ 3 ∧ (3 : Int) ≤ 3 ∧ am_cs [] ≤ 8, -128 ≤ (8 : Int) ∧ (8 : Int) ≤ 127, (0 : Int) = 0 ∧ (0 : Int) = 0 ∧ (0 : Int) ≤ 8 ∧ (8 : Int) ≤ 8 ∧ (8 : Int) ≤ 8 ∧ am_cs [] ≤ 8, -128 ≤ (8 : Int) ∧ (8 : Int) ≤ 127, (0 : Int) = 0 ∧ (0 : Int) = 0 ∧ (0 : Int) ≤ 8 ∧ (8 : Int) ≤ 8 ∧ (8 : Int) ≤ 8 ∧ am_cs [] ≤ 8]) (pc' := 136) (lv' := [(0, .inr (.inl (some 1))), (1, .inr (.inl (some 56)))]) (st' := []) (M' := (am_up (am_up (am_up (am_up (am_cp (am_cp (am_cp (am_cp (am_cp (am_cp (am_cp M 57 2 60) 58 3 60) 59 4 60) 60 5 60) 61 6 3) 62 7 8) 63 8 8) 1 7 ((am_cp (am_cp (am_cp (am_cp (am_cp (am_cp (am_cp M 57 2 60) 58 3 60) 59 4 60) 60 5 60) 61 6 3) 62 7 8) 63 8 8) 56 7)) 1 8 ((am_up (am_cp (am_cp (am_cp (am_cp (am_cp (am_cp (am_cp M 57 2 60) 58 3 60) 59 4 60) 60 5 60) 61 6 3) 62 7 8) 63 8 8) 1 7 ((am_cp (am_cp (am_cp (am_cp (am_cp (am_cp (am_cp M 57 2 60) 58 3 60) 59 4 60) 60 5 60) 61 6 3) 62 7 8) 63 8 8) 56 7)) 56 8)) 1 9 ((am_up (am_up (am_cp (am_cp (am_cp (am_cp (am_cp (am_cp (am_cp M 57 2 60) 58 3 60) 59 4 60) 60 5 60) 61 6 3) 62 7 8) 63 8 8) 1 7 ((am_cp (am_cp (am_cp (am_cp (am_cp (am_cp (am_cp M 57 2 60) 58 3 60) 59 4 60) 60 5 60) 61 6 3) 62 7 8) 63 8 8) 56 7)) 1 8 ((am_up (am_cp (am_cp (am_cp (am_cp (am_cp (am_cp (am_cp M 57 2 60) 58 3 60) 59 4 60) 60 5 60) 61 6 3) 62 7 8) 63 8 8) 1 7 ((am_cp (am_cp (am_cp (am_cp (am_cp (am_cp (am_cp M 57 2 60) 58 3 60) 59 4 60) 60 5 60) 61 6 3) 62 7 8) 63 8 8) 56 7)) 56 8)) 56 9)) 1 10 ((am_up (am_up (am_up (am_cp (am_cp (am_cp (am_cp (am_cp (am_cp (am_cp M 57 2 60) 58 3 60) 59 4 60) 60 5 60) 61 6 3) 62 7 8) 63 8 8) 1 7 ((am_cp (am_cp (am_cp (am_cp (am_cp (am_cp (am_cp M 57 2 60) 58 3 60) 59 4 60) 60 5 60) 61 6 3) 62 7 8) 63 8 8) 56 7)) 1 8 ((am_up (am_cp (am_cp (am_cp (am_cp (am_cp (am_cp (am_cp M 57 2 60) 58 3 60) 59 4 60) 60 5 60) 61 6 3) 62 7 8) 63 8 8) 1 7 ((am_cp (am_cp (am_cp (am_cp (am_cp (am_cp (am_cp M 57 2 60) 58 3 60) 59 4 60) 60 5 60) 61 6 3) 62 7 8) 63 8 8) 56 7)) 56 8)) 1 9 ((am_up (am_up (am_cp (am_cp (am_cp (am_cp (am_cp (am_cp (am_cp M 57 2 60) 58 3 60) 59 4 60) 60 5 60) 61 6 3) 62 7 8) 63 8 8) 1 7 ((am_cp (am_cp (am_cp (am_cp (am_cp (am_cp (am_cp M 57 2 60) 58 3 60) 59 4 60) 60 5 60) 61 6 3) 62 7 8) 63 8 8) 56 7)) 1 8 ((am_up (am_cp (am_cp (am_cp (am_cp (am_cp (am_cp (am_cp M 57 2 60) 58 3 60) 59 4 60) 60 5 60) 61 6 3) 62 7 8) 63 8 8) 1 7 ((am_cp (am_cp (am_cp (am_cp (am_cp (am_cp (am_cp M 57 2 60) 58 3 60) 59 4 60) 60 5 60) 61 6 3) 62 7 8) 63 8 8) 56 7)) 56 8)) 56 9)) 56 10))) rfl ⟨⟨by decide, by decide⟩, ⟨rfl, rfl, by decide, by decide, by decide, by decide⟩, ⟨by decide, by decide⟩, ⟨rfl, rfl, by decide, by decide, by decide, by decide⟩, ⟨by decide, by decide⟩, ⟨rfl, rfl, by decide, by decide, by decide, by decide⟩, ⟨by decide, by decide⟩, ⟨rfl, rfl, by decide, by decide, by decide, by decide⟩, ⟨rfl, rfl, by decide, by decide, by decide, by decide⟩, ⟨by decide, by decide⟩, ⟨rfl, rfl, by decide, by decide, by decide, by decide⟩, ⟨by decide, by decide⟩, ⟨rfl, rfl, by decide, by decide, by decide, by decide⟩, trivial⟩ ?_
  exact am_Wretv rfl rfl h
abbrev dt_X0_restore : am_D := (tk_X0_restore, 0, 3, none, tb_hn 103)
def wp_X0_restore (M : am_M) (Q : am_M → Prop) : Prop := (am_rg (M 14 2)) ∧ (¬ (M 14 2) = 0 → wp_X0_rowAt (((am_up M 14 2 ((M 14 2) - 1)) 14 1) + ((am_up M 14 2 ((M 14 2) - 1)) 14 2)) (am_up M 14 2 ((M 14 2) - 1)) (fun x1 M2 => (x1 = none ∨ x1 = some 16 ∨ x1 = some 24 ∨ x1 = some 32 ∨ x1 = some 40 ∨ x1 = some 48 ∨ x1 = some 56) ∧ (x1 = none → Q M2) ∧ (x1 = some 16 → wp_X2_copyFrom_1_16 M2 (fun M3 => Q M3)) ∧ (x1 = some 24 → wp_X2_copyFrom_1_24 M2 (fun M4 => Q M4)) ∧ (x1 = some 32 → wp_X2_copyFrom_1_32 M2 (fun M5 => Q M5)) ∧ (x1 = some 40 → wp_X2_copyFrom_1_40 M2 (fun M6 => Q M6)) ∧ (x1 = some 48 → wp_X2_copyFrom_1_48 M2 (fun M7 => Q M7)) ∧ (x1 = some 56 → wp_X2_copyFrom_1_56 M2 (fun M8 => Q M8)))) ∧ (¬ (¬ (M 14 2) = 0) → Q M)
set_option maxRecDepth 20000 in
theorem tm_X0_restore {M : am_M} {Q : am_M → Prop} (h : wp_X0_restore M Q) : am_CC 3 103 [.inr (.inl (some 14)), .inr (.inl (some 1))] M (am_QV Q) (fun _ _ => False) := by
  refine ⟨Nat.le_of_ble_eq_true rfl, ?_⟩
  show am_W (am_CC 2) dt_X0_restore 2 0 none (am_QV Q) (am_qx 103 (fun _ _ => False)) (0, 0, [(0, .inr (.inl (some 14))), (1, .inr (.inl (some 1)))], [], M)
  refine am_Wrun 2 (ps := []) (pc' := 4) (lv' := [(0, .inr (.inl (some 14))), (1, .inr (.inl (some 1)))]) (st' := [.inl (M 14 2)]) (M' := M) rfl trivial ?_
  obtain ⟨b0, ht, hf⟩ := h
  refine am_Wbr (P := [am_rg (M 14 2)]) (c := ¬ (M 14 2) = 0) (t := 8) (f := 7) (st' := []) rfl rfl ⟨b0, trivial⟩ rfl (fun q => ?_) (fun q => ?_)
  · have h := ht q
    refine am_Wrun 12 (ps := []) (pc' := 28) (lv' := [(0, .inr (.inl (some 14))), (1, .inr (.inl (some 1)))]) (st' := [.inl (((am_up M 14 2 ((M 14 2) - 1)) 14 1) + ((am_up M 14 2 ((M 14 2) - 1)) 14 2)), .inr (.inl (some 14))]) (M' := (am_up M 14 2 ((M 14 2) - 1))) rfl trivial ?_
    refine am_WcallV (y := 2) (n := 2) (a := 14) (f := 31) (as := [.inl (((am_up M 14 2 ((M 14 2) - 1)) 14 1) + ((am_up M 14 2 ((M 14 2) - 1)) 14 2))]) (st' := []) rfl rfl rfl rfl rfl rfl rfl rfl rfl rfl (Nat.zero_le _) rfl (am_CC_le (Nat.le_of_ble_eq_true rfl) (tm_X0_rowAt h)) (fun r M2 q => ?_) (fun _ _ q => q.elim)
    obtain ⟨x1, rfl, h⟩ := q
    obtain ⟨hor, g0, g1, g2, g3, g4, g5, g6⟩ := h
    rcases hor with rfl | rfl | rfl | rfl | rfl | rfl | rfl
    · have h := g0 rfl
      refine am_Wrun 2 (ps := []) (pc' := 33) (lv' := [(2, .inr (.inl none)), (0, .inr (.inl (some 14))), (1, .inr (.inl (some 1)))]) (st' := [.inr (.inl none)]) (M' := M2) rfl trivial ?_
      refine am_Wbr (P := []) (c := (none : Option Nat) = none) (t := 41) (f := 36) (st' := []) rfl rfl trivial rfl (fun q => ?_) (fun q => absurd rfl q)
      exact am_Wretv rfl rfl h
    · have h := g1 rfl
      refine am_Wrun 2 (ps := []) (pc' := 33) (lv' := [(2, .inr (.inl (some 16))), (0, .inr (.inl (some 14))), (1, .inr (.inl (some 1)))]) (st' := [.inr (.inl (some 16))]) (M' := M2) rfl trivial ?_
      refine am_Wbr (P := []) (c := (some 16) = none) (t := 41) (f := 36) (st' := []) rfl rfl trivial rfl (fun q => absurd q (by simp)) (fun q => ?_)
      refine am_Wrun 2 (ps := []) (pc' := 38) (lv' := [(2, .inr (.inl (some 16))), (0, .inr (.inl (some 14))), (1, .inr (.inl (some 1)))]) (st' := [.inr (.inl (some 16)), .inr (.inl (some 1))]) (M' := M2) rfl trivial ?_
      refine am_WcallV (y := 4) (n := 2) (a := 1) (f := 41) (as := [.inr (.inl (some 16))]) (st' := []) rfl rfl rfl rfl rfl rfl rfl rfl rfl rfl (Nat.zero_le _) rfl (am_CC_le (Nat.le_of_ble_eq_true rfl) (tm_X2_copyFrom_1_16 h)) (fun r M3 q => ?_) (fun _ _ q => q.elim)
      obtain ⟨rfl, h⟩ := q
      exact am_Wretv rfl rfl h
    · have h := g2 rfl
      refine am_Wrun 2 (ps := []) (pc' := 33) (lv' := [(2, .inr (.inl (some 24))), (0, .inr (.inl (some 14))), (1, .inr (.inl (some 1)))]) (st' := [.inr (.inl (some 24))]) (M' := M2) rfl trivial ?_
      refine am_Wbr (P := []) (c := (some 24) = none) (t := 41) (f := 36) (st' := []) rfl rfl trivial rfl (fun q => absurd q (by simp)) (fun q => ?_)
      refine am_Wrun 2 (ps := []) (pc' := 38) (lv' := [(2, .inr (.inl (some 24))), (0, .inr (.inl (some 14))), (1, .inr (.inl (some 1)))]) (st' := [.inr (.inl (some 24)), .inr (.inl (some 1))]) (M' := M2) rfl trivial ?_
      refine am_WcallV (y := 4) (n := 2) (a := 1) (f := 41) (as := [.inr (.inl (some 24))]) (st' := []) rfl rfl rfl rfl rfl rfl rfl rfl rfl rfl (Nat.zero_le _) rfl (am_CC_le (Nat.le_of_ble_eq_true rfl) (tm_X2_copyFrom_1_24 h)) (fun r M4 q => ?_) (fun _ _ q => q.elim)
      obtain ⟨rfl, h⟩ := q
      exact am_Wretv rfl rfl h
    · have h := g3 rfl
      refine am_Wrun 2 (ps := []) (pc' := 33) (lv' := [(2, .inr (.inl (some 32))), (0, .inr (.inl (some 14))), (1, .inr (.inl (some 1)))]) (st' := [.inr (.inl (some 32))]) (M' := M2) rfl trivial ?_
      refine am_Wbr (P := []) (c := (some 32) = none) (t := 41) (f := 36) (st' := []) rfl rfl trivial rfl (fun q => absurd q (by simp)) (fun q => ?_)
      refine am_Wrun 2 (ps := []) (pc' := 38) (lv' := [(2, .inr (.inl (some 32))), (0, .inr (.inl (some 14))), (1, .inr (.inl (some 1)))]) (st' := [.inr (.inl (some 32)), .inr (.inl (some 1))]) (M' := M2) rfl trivial ?_
      refine am_WcallV (y := 4) (n := 2) (a := 1) (f := 41) (as := [.inr (.inl (some 32))]) (st' := []) rfl rfl rfl rfl rfl rfl rfl rfl rfl rfl (Nat.zero_le _) rfl (am_CC_le (Nat.le_of_ble_eq_true rfl) (tm_X2_copyFrom_1_32 h)) (fun r M5 q => ?_) (fun _ _ q => q.elim)
      obtain ⟨rfl, h⟩ := q
      exact am_Wretv rfl rfl h
    · have h := g4 rfl
      refine am_Wrun 2 (ps := []) (pc' := 33) (lv' := [(2, .inr (.inl (some 40))), (0, .inr (.inl (some 14))), (1, .inr (.inl (some 1)))]) (st' := [.inr (.inl (some 40))]) (M' := M2) rfl trivial ?_
      refine am_Wbr (P := []) (c := (some 40) = none) (t := 41) (f := 36) (st' := []) rfl rfl trivial rfl (fun q => absurd q (by simp)) (fun q => ?_)
      refine am_Wrun 2 (ps := []) (pc' := 38) (lv' := [(2, .inr (.inl (some 40))), (0, .inr (.inl (some 14))), (1, .inr (.inl (some 1)))]) (st' := [.inr (.inl (some 40)), .inr (.inl (some 1))]) (M' := M2) rfl trivial ?_
      refine am_WcallV (y := 4) (n := 2) (a := 1) (f := 41) (as := [.inr (.inl (some 40))]) (st' := []) rfl rfl rfl rfl rfl rfl rfl rfl rfl rfl (Nat.zero_le _) rfl (am_CC_le (Nat.le_of_ble_eq_true rfl) (tm_X2_copyFrom_1_40 h)) (fun r M6 q => ?_) (fun _ _ q => q.elim)
      obtain ⟨rfl, h⟩ := q
      exact am_Wretv rfl rfl h
    · have h := g5 rfl
      refine am_Wrun 2 (ps := []) (pc' := 33) (lv' := [(2, .inr (.inl (some 48))), (0, .inr (.inl (some 14))), (1, .inr (.inl (some 1)))]) (st' := [.inr (.inl (some 48))]) (M' := M2) rfl trivial ?_
      refine am_Wbr (P := []) (c := (some 48) = none) (t := 41) (f := 36) (st' := []) rfl rfl trivial rfl (fun q => absurd q (by simp)) (fun q => ?_)
      refine am_Wrun 2 (ps := []) (pc' := 38) (lv' := [(2, .inr (.inl (some 48))), (0, .inr (.inl (some 14))), (1, .inr (.inl (some 1)))]) (st' := [.inr (.inl (some 48)), .inr (.inl (some 1))]) (M' := M2) rfl trivial ?_
      refine am_WcallV (y := 4) (n := 2) (a := 1) (f := 41) (as := [.inr (.inl (some 48))]) (st' := []) rfl rfl rfl rfl rfl rfl rfl rfl rfl rfl (Nat.zero_le _) rfl (am_CC_le (Nat.le_of_ble_eq_true rfl) (tm_X2_copyFrom_1_48 h)) (fun r M7 q => ?_) (fun _ _ q => q.elim)
      obtain ⟨rfl, h⟩ := q
      exact am_Wretv rfl rfl h
    · have h := g6 rfl
      refine am_Wrun 2 (ps := []) (pc' := 33) (lv' := [(2, .inr (.inl (some 56))), (0, .inr (.inl (some 14))), (1, .inr (.inl (some 1)))]) (st' := [.inr (.inl (some 56))]) (M' := M2) rfl trivial ?_
      refine am_Wbr (P := []) (c := (some 56) = none) (t := 41) (f := 36) (st' := []) rfl rfl trivial rfl (fun q => absurd q (by simp)) (fun q => ?_)
      refine am_Wrun 2 (ps := []) (pc' := 38) (lv' := [(2, .inr (.inl (some 56))), (0, .inr (.inl (some 14))), (1, .inr (.inl (some 1)))]) (st' := [.inr (.inl (some 56)), .inr (.inl (some 1))]) (M' := M2) rfl trivial ?_
      refine am_WcallV (y := 4) (n := 2) (a := 1) (f := 41) (as := [.inr (.inl (some 56))]) (st' := []) rfl rfl rfl rfl rfl rfl rfl rfl rfl rfl (Nat.zero_le _) rfl (am_CC_le (Nat.le_of_ble_eq_true rfl) (tm_X2_copyFrom_1_56 h)) (fun r M8 q => ?_) (fun _ _ q => q.elim)
      obtain ⟨rfl, h⟩ := q
      exact am_Wretv rfl rfl h
  · have h := hf q
    exact am_Wretv rfl rfl h
abbrev dt_X5_undo : am_D := (tk_X5_undo, 5, 1, some .int, tb_hn 102)
def wp_X5_undo (M : am_M) (Q : Int → am_M → Prop) (X : am_X) : Prop := (am_rg (M 14 2)) ∧ (¬ (M 14 2) = 0 → wp_X0_restore M (fun M1 => wp_X5_pointsChanged M1 (fun M2 => Q (M2 14 2) M2))) ∧ (¬ (¬ (M 14 2) = 0) → X 1 M)
set_option maxRecDepth 20000 in
theorem tm_X5_undo {M : am_M} {Q : Int → am_M → Prop} {X : am_X} (h : wp_X5_undo M Q X) : am_CC 6 102 [.inr (.inl (some 0))] M (am_QI Q) X := by
  refine ⟨Nat.le_of_ble_eq_true rfl, ?_⟩
  show am_W (am_CC 5) dt_X5_undo 5 0 none (am_QI Q) (am_qx 102 X) (0, 0, [(0, .inr (.inl (some 0)))], [], M)
  have hX : ∀ E M, X E M → am_qx 102 X E M := fun E M q => ⟨⟨rfl, by decide⟩, q⟩
  refine am_Wrun 3 (ps := []) (pc' := 7) (lv' := [(0, .inr (.inl (some 0)))]) (st' := [.inl (M 14 2)]) (M' := M) rfl trivial ?_
  obtain ⟨b0, ht, hf⟩ := h
  refine am_Wbr (P := [am_rg (M 14 2)]) (c := ¬ (M 14 2) = 0) (t := 20) (f := 10) (st' := []) rfl rfl ⟨b0, trivial⟩ rfl (fun q => ?_) (fun q => ?_)
  · have h := ht q
    refine am_Wrun 4 (ps := []) (pc' := 28) (lv' := [(0, .inr (.inl (some 0)))]) (st' := [.inr (.inl (some 1)), .inr (.inl (some 14))]) (M' := M) rfl trivial ?_
    refine am_WcallV (y := 103) (n := 2) (a := 14) (f := 31) (as := [.inr (.inl (some 1))]) (st' := []) rfl rfl rfl rfl rfl rfl rfl rfl rfl rfl (Nat.zero_le _) rfl (am_CC_le (Nat.le_of_ble_eq_true rfl) (tm_X0_restore h)) (fun r M1 q => ?_) (fun _ _ q => q.elim)
    obtain ⟨rfl, h⟩ := q
    refine am_Wrun 1 (ps := []) (pc' := 32) (lv' := [(0, .inr (.inl (some 0)))]) (st' := [.inr (.inl (some 0))]) (M' := M1) rfl trivial ?_
    refine am_WcallV (y := 82) (n := 1) (a := 0) (f := 35) (as := []) (st' := []) rfl rfl rfl rfl rfl rfl rfl rfl rfl rfl (Nat.zero_le _) rfl (am_CC_le (Nat.le_of_ble_eq_true rfl) (tm_X5_pointsChanged h)) (fun r M2 q => ?_) (fun _ _ q => q.elim)
    obtain ⟨rfl, h⟩ := q
    refine am_Wrun 3 (ps := []) (pc' := 42) (lv' := [(0, .inr (.inl (some 0)))]) (st' := [.inl (M2 14 2)]) (M' := M2) rfl trivial ?_
    exact am_Wreti rfl rfl h
  · have h := hf q
    exact am_Wthr (is := 207) (ic := 77) (E := 1) rfl (Nat.le_of_ble_eq_true rfl) rfl rfl rfl rfl (Or.inl ⟨rfl, rfl, rfl⟩) (hX _ _ h)
abbrev dt_L_undo : am_D := (tk_L_undo, 9, 3, some .int, tb_hn 209)
def wp_L_undo (M : am_M) (Q : Int → am_M → Prop) : Prop := wp_X5_undo M (fun x1 M2 => (am_rg x1) ∧ (Q 0 (am_up M2 80 0 x1))) (fun E M3 => (E = 1 ∧ Q 1 M3))
set_option maxRecDepth 20000 in
theorem tm_L_undo {M : am_M} {Q : Int → am_M → Prop} (h : wp_L_undo M Q) : am_CC 7 209 [.inr (.inl (some 0)), .inr (.inl (some 80))] M (am_QI Q) (fun _ _ => False) := by
  refine ⟨Nat.le_of_ble_eq_true rfl, ?_⟩
  show am_W (am_CC 6) dt_L_undo 6 1 none (am_QI Q) (am_qx 209 (fun _ _ => False)) (0, 0, [(0, .inr (.inl (some 0))), (1, .inr (.inl (some 80)))], [], M)
  refine am_Wrun 3 (ps := []) (pc' := 3) (lv' := [(0, .inr (.inl (some 0))), (1, .inr (.inl (some 80)))]) (st' := [.inr (.inl (some 0)), .inl (0), .inr (.inl (some 80))]) (M' := M) rfl trivial ?_
  refine am_WcallV (y := 102) (n := 1) (a := 0) (f := 6) (as := []) (st' := [.inl (0), .inr (.inl (some 80))]) rfl rfl rfl rfl rfl rfl rfl rfl rfl rfl (Nat.zero_le _) rfl (am_CC_le (Nat.le_of_ble_eq_true rfl) (tm_X5_undo h)) (fun r M2 q => ?_) (fun E M3 q => ?_)
  · obtain ⟨x1, rfl, h⟩ := q
    obtain ⟨c0_0, h⟩ := h
    refine am_Wrun 4 (ps := [am_rg x1, 0 ≤ (0 : Int) ∧ (0 : Int) < 1]) (pc' := 15) (lv' := [(0, .inr (.inl (some 0))), (1, .inr (.inl (some 80)))]) (st' := [.inl (0)]) (M' := (am_up M2 80 0 x1)) rfl ⟨c0_0, ⟨by decide, by decide⟩, trivial⟩ ?_
    exact am_Wreti rfl rfl h
  · rcases q with ⟨rfl, h⟩
    · show 0 + 1 ≤ 1 ∧ am_W (am_CC 6) dt_L_undo 6 1 none (am_QI Q) _ (0 + 1, 12, [(0, .inr (.inl (some 0))), (1, .inr (.inl (some 80)))], [], M3)
      refine ⟨Nat.le_refl _, ?_⟩
      refine am_Wrun 1 (ps := []) (pc' := 13) (lv' := [(0, .inr (.inl (some 0))), (1, .inr (.inl (some 80)))]) (st' := [.inl (1)]) (M' := M3) rfl trivial ?_
      exact am_Wreti rfl rfl h
abbrev dt_X6_undo : am_D := (tk_X6_undo, 6, 2, some .int, tb_hn 165)
def wl_X6_undo_30 (Q : Int → am_M → Prop) : Nat → Int → am_M → Prop
  | 0, _, _ => False
  | n + 1, v1, M => (am_rg v1) ∧ (203 ≤ v1 → Q (M 69 2) M) ∧ (¬ 203 ≤ v1 → (0 ≤ ((203 * (M 69 2)) + v1 : Int) ∧ ((203 * (M 69 2)) + v1 : Int) < 1218) ∧ (0 ≤ (v1 : Int) ∧ (v1 : Int) < 203) ∧ (wl_X6_undo_30 Q n (v1 + 1) (am_up M 70 v1 (M 71 ((203 * (M 69 2)) + v1)))))
def wp_X6_undo (M : am_M) (Q : Int → am_M → Prop) : Prop := (am_rg ((am_up M 69 5 0) 69 2)) ∧ (¬ ((am_up M 69 5 0) 69 2) = 0 → ∃ e30, wl_X6_undo_30 Q e30 0 (am_up (am_up M 69 5 0) 69 2 (((am_up M 69 5 0) 69 2) - 1))) ∧ (¬ (¬ ((am_up M 69 5 0) 69 2) = 0) → wp_X6_fails 1 (am_up M 69 5 0) (fun x1 M2 => Q x1 M2))
set_option maxRecDepth 20000 in
theorem tw_X6_undo_30 {Q : Int → am_M → Prop} {QX : am_X} : ∀ (n : Nat) (v1 : Int) (M : am_M), wl_X6_undo_30 Q n v1 M → am_W (am_CC 1) dt_X6_undo 1 0 none (am_QI Q) QX (0, 30, [(0, .inr (.inl (some 69))), (1, .inl (v1))], [], M)
  | 0, _, _, h => h.elim
  | n + 1, v1, M, h => by
    refine am_Wrun 2 (ps := [-32768 ≤ (203 : Int) ∧ (203 : Int) ≤ 32767]) (pc' := 34) (lv' := [(0, .inr (.inl (some 69))), (1, .inl (v1))]) (st' := [.inl (203), .inl (v1)]) (M' := M) rfl ⟨⟨by decide, by decide⟩, trivial⟩ ?_
    obtain ⟨b0, ht, hf⟩ := h
    refine am_Wbr (P := [am_rg v1, am_rg 203]) (c := 203 ≤ v1) (t := 64) (f := 37) (st' := []) rfl rfl ⟨b0, (am_rgd rfl), trivial⟩ rfl (fun q => ?_) (fun q => ?_)
    · have h := ht q
      refine am_Wrun 2 (ps := []) (pc' := 68) (lv' := [(0, .inr (.inl (some 69))), (1, .inl (v1))]) (st' := [.inl (M 69 2)]) (M' := M) rfl trivial ?_
      exact am_Wreti rfl rfl h
    · have h := hf q
      obtain ⟨c1_0, c2_0, h⟩ := h
      refine am_Wrun 15 (ps := [-32768 ≤ (203 : Int) ∧ (203 : Int) ≤ 32767, 0 ≤ ((203 * (M 69 2)) + v1 : Int) ∧ ((203 * (M 69 2)) + v1 : Int) < 1218, 0 ≤ (v1 : Int) ∧ (v1 : Int) < 203]) (pc' := 30) (lv' := [(1, .inl (v1 + 1)), (0, .inr (.inl (some 69)))]) (st' := []) (M' := (am_up M 70 v1 (M 71 ((203 * (M 69 2)) + v1)))) rfl ⟨⟨by decide, by decide⟩, c1_0, c2_0, trivial⟩ ?_
      refine am_W_sub [1, 0] rfl ?_
      exact tw_X6_undo_30 n (v1 + 1) (am_up M 70 v1 (M 71 ((203 * (M 69 2)) + v1))) h
set_option maxRecDepth 20000 in
theorem tm_X6_undo {M : am_M} {Q : Int → am_M → Prop} (h : wp_X6_undo M Q) : am_CC 2 165 [.inr (.inl (some 69))] M (am_QI Q) (fun _ _ => False) := by
  refine ⟨Nat.le_of_ble_eq_true rfl, ?_⟩
  show am_W (am_CC 1) dt_X6_undo 1 0 none (am_QI Q) (am_qx 165 (fun _ _ => False)) (0, 0, [(0, .inr (.inl (some 69)))], [], M)
  refine am_Wrun 5 (ps := []) (pc' := 9) (lv' := [(0, .inr (.inl (some 69)))]) (st' := [.inl ((am_up M 69 5 0) 69 2)]) (M' := (am_up M 69 5 0)) rfl trivial ?_
  obtain ⟨b0, ht, hf⟩ := h
  refine am_Wbr (P := [am_rg ((am_up M 69 5 0) 69 2)]) (c := ¬ ((am_up M 69 5 0) 69 2) = 0) (t := 18) (f := 12) (st' := []) rfl rfl ⟨b0, trivial⟩ rfl (fun q => ?_) (fun q => ?_)
  · have h := ht q
    refine am_Wrun 8 (ps := []) (pc' := 30) (lv' := [(1, .inl (0)), (0, .inr (.inl (some 69)))]) (st' := []) (M' := (am_up (am_up M 69 5 0) 69 2 (((am_up M 69 5 0) 69 2) - 1))) rfl trivial ?_
    refine am_W_sub [1, 0] rfl ?_
    obtain ⟨n30, h⟩ := h
    exact tw_X6_undo_30 n30 0 (am_up (am_up M 69 5 0) 69 2 (((am_up M 69 5 0) 69 2) - 1)) h
  · have h := hf q
    refine am_Wrun 2 (ps := []) (pc' := 14) (lv' := [(0, .inr (.inl (some 69)))]) (st' := [.inl (1), .inr (.inl (some 69))]) (M' := (am_up M 69 5 0)) rfl trivial ?_
    refine am_WcallV (y := 113) (n := 2) (a := 69) (f := 17) (as := [.inl (1)]) (st' := []) rfl rfl rfl rfl rfl rfl rfl rfl rfl rfl (Nat.zero_le _) rfl (am_CC_le (Nat.le_of_ble_eq_true rfl) (tm_X6_fails h)) (fun r M2 q => ?_) (fun _ _ q => q.elim)
    obtain ⟨x1, rfl, h⟩ := q
    exact am_Wreti rfl rfl h
abbrev dt_X5_point : am_D := (tk_X5_point, 5, 3, some .int, tb_hn 43)
def wp_X5_point (a0 : Int) (a1 : Int) (M : am_M) (Q : Int → am_M → Prop) (X : am_X) : Prop := wp_X5_refuseNoPoint a0 M (fun M1 => wp_X5_refuseOutside a1 7 M1 (fun M2 => (am_rg a1) ∧ ((a1 < 0 ∨ 6 < a1) → wp_X1_reasonToKeep a0 M2 (fun x3 M4 => Q x3 M4)) ∧ (a1 = 0 → (0 ≤ (a0 : Int) ∧ (a0 : Int) < 60) ∧ (Q (M2 2 a0) M2)) ∧ (a1 = 1 → (0 ≤ (a0 : Int) ∧ (a0 : Int) < 60) ∧ (Q (M2 3 a0) M2)) ∧ (a1 = 2 → (0 ≤ (a0 : Int) ∧ (a0 : Int) < 60) ∧ (Q (M2 4 a0) M2)) ∧ (a1 = 3 → wp_X1_isBroken a0 M2 (fun x5 M6 => (am_rg x5) ∧ (x5 = 0 → Q 0 M6) ∧ (¬ x5 = 0 → Q 1 M6))) ∧ (a1 = 4 → (0 ≤ (a0 : Int) ∧ (a0 : Int) < 60) ∧ (Q (M2 5 a0) M2)) ∧ (a1 = 5 → wp_X2_earlierKept a0 M2 (fun x7 M8 => Q x7 M8)) ∧ (a1 = 6 → wp_X2_laterKept a0 M2 (fun x9 M10 => Q x9 M10))) X) X
set_option maxRecDepth 20000 in
theorem tm_X5_point {a0 a1 : Int} {M : am_M} {Q : Int → am_M → Prop} {X : am_X} (h : wp_X5_point a0 a1 M Q X) : am_CC 7 43 [.inr (.inl (some 0)), .inl (a0), .inl (a1)] M (am_QI Q) X := by
  refine ⟨Nat.le_of_ble_eq_true rfl, ?_⟩
  show am_W (am_CC 6) dt_X5_point 6 0 none (am_QI Q) (am_qx 43 X) (0, 0, [(0, .inr (.inl (some 0))), (1, .inl (a0)), (2, .inl (a1))], [], M)
  have hX : ∀ E M, X E M → am_qx 43 X E M := fun E M q => ⟨⟨rfl, by decide⟩, q⟩
  refine am_Wrun 2 (ps := []) (pc' := 2) (lv' := [(0, .inr (.inl (some 0))), (1, .inl (a0)), (2, .inl (a1))]) (st' := [.inl (a0), .inr (.inl (some 0))]) (M' := M) rfl trivial ?_
  refine am_WcallV (y := 44) (n := 2) (a := 0) (f := 5) (as := [.inl (a0)]) (st' := []) rfl rfl rfl rfl rfl rfl rfl rfl rfl rfl (Nat.zero_le _) rfl (am_CC_le (Nat.le_of_ble_eq_true rfl) (tm_X5_refuseNoPoint h)) (fun r M1 q => ?_) (fun E M q => hX _ _ q)
  obtain ⟨rfl, h⟩ := q
  refine am_Wrun 2 (ps := [-128 ≤ (7 : Int) ∧ (7 : Int) ≤ 127]) (pc' := 8) (lv' := [(0, .inr (.inl (some 0))), (1, .inl (a0)), (2, .inl (a1))]) (st' := [.inl (7), .inl (a1)]) (M' := M1) rfl ⟨⟨by decide, by decide⟩, trivial⟩ ?_
  refine am_WcallS (y := 34) (n := 2) (f := 11) (co := 0) (as := [.inl (a1), .inl (7)]) (st' := []) rfl rfl rfl rfl rfl rfl rfl rfl rfl (Nat.zero_le _) rfl (am_CC_le (Nat.le_of_ble_eq_true rfl) (tm_X5_refuseOutside h)) (fun r M2 q => ?_) (fun E M q => hX _ _ q)
  obtain ⟨rfl, h⟩ := q
  refine am_Wrun 1 (ps := []) (pc' := 12) (lv' := [(0, .inr (.inl (some 0))), (1, .inl (a0)), (2, .inl (a1))]) (st' := [.inl (a1)]) (M' := M2) rfl trivial ?_
  obtain ⟨c0, hd, j0, j1, j2, j3, j4, j5, j6⟩ := h
  refine am_Wsw (n := 7) (t := 131) rfl c0 rfl (by decide) (fun q => ?_) (fun j hj e2 => ?_)
  · have h := hd q
    refine am_Wrun 3 (ps := []) (pc' := 136) (lv' := [(0, .inr (.inl (some 0))), (1, .inl (a0)), (2, .inl (a1))]) (st' := [.inl (a0), .inr (.inl (some 9))]) (M' := M2) rfl trivial ?_
    refine am_WcallV (y := 45) (n := 2) (a := 9) (f := 139) (as := [.inl (a0)]) (st' := []) rfl rfl rfl rfl rfl rfl rfl rfl rfl rfl (Nat.zero_le _) rfl (am_CC_le (Nat.le_of_ble_eq_true rfl) (tm_X1_reasonToKeep h)) (fun r M4 q => ?_) (fun _ _ q => q.elim)
    obtain ⟨x3, rfl, h⟩ := q
    exact am_Wreti rfl rfl h
  · match j, hj, e2 with
    | 0, _, e2 =>
      have h := j0 e2
      refine ⟨_, 56, rfl, rfl, ?_⟩
      obtain ⟨c0_0, h⟩ := h
      refine am_Wrun 5 (ps := [0 ≤ (a0 : Int) ∧ (a0 : Int) < 60]) (pc' := 65) (lv' := [(0, .inr (.inl (some 0))), (1, .inl (a0)), (2, .inl (a1))]) (st' := [.inl (M2 2 a0)]) (M' := M2) rfl ⟨c0_0, trivial⟩ ?_
      exact am_Wreti rfl rfl h
    | 1, _, e2 =>
      have h := j1 e2
      refine ⟨_, 66, rfl, rfl, ?_⟩
      obtain ⟨c0_0, h⟩ := h
      refine am_Wrun 5 (ps := [0 ≤ (a0 : Int) ∧ (a0 : Int) < 60]) (pc' := 75) (lv' := [(0, .inr (.inl (some 0))), (1, .inl (a0)), (2, .inl (a1))]) (st' := [.inl (M2 3 a0)]) (M' := M2) rfl ⟨c0_0, trivial⟩ ?_
      exact am_Wreti rfl rfl h
    | 2, _, e2 =>
      have h := j2 e2
      refine ⟨_, 76, rfl, rfl, ?_⟩
      obtain ⟨c0_0, h⟩ := h
      refine am_Wrun 5 (ps := [0 ≤ (a0 : Int) ∧ (a0 : Int) < 60]) (pc' := 85) (lv' := [(0, .inr (.inl (some 0))), (1, .inl (a0)), (2, .inl (a1))]) (st' := [.inl (M2 4 a0)]) (M' := M2) rfl ⟨c0_0, trivial⟩ ?_
      exact am_Wreti rfl rfl h
    | 3, _, e2 =>
      have h := j3 e2
      refine ⟨_, 86, rfl, rfl, ?_⟩
      refine am_Wrun 3 (ps := []) (pc' := 91) (lv' := [(0, .inr (.inl (some 0))), (1, .inl (a0)), (2, .inl (a1))]) (st' := [.inl (a0), .inr (.inl (some 9))]) (M' := M2) rfl trivial ?_
      refine am_WcallV (y := 7) (n := 2) (a := 9) (f := 94) (as := [.inl (a0)]) (st' := []) rfl rfl rfl rfl rfl rfl rfl rfl rfl rfl (Nat.zero_le _) rfl (am_CC_le (Nat.le_of_ble_eq_true rfl) (tm_X1_isBroken h)) (fun r M6 q => ?_) (fun _ _ q => q.elim)
      obtain ⟨x5, rfl, h⟩ := q
      obtain ⟨b0, ht, hf⟩ := h
      refine am_Wbr (P := [am_rg x5]) (c := x5 = 0) (t := 101) (f := 97) (st' := []) rfl rfl ⟨b0, trivial⟩ rfl (fun q => ?_) (fun q => ?_)
      · have h := ht q
        refine am_Wrun 1 (ps := []) (pc' := 102) (lv' := [(0, .inr (.inl (some 0))), (1, .inl (a0)), (2, .inl (a1))]) (st' := [.inl (0)]) (M' := M6) rfl trivial ?_
        exact am_Wreti rfl rfl h
      · have h := hf q
        refine am_Wrun 2 (ps := []) (pc' := 102) (lv' := [(0, .inr (.inl (some 0))), (1, .inl (a0)), (2, .inl (a1))]) (st' := [.inl (1)]) (M' := M6) rfl trivial ?_
        exact am_Wreti rfl rfl h
    | 4, _, e2 =>
      have h := j4 e2
      refine ⟨_, 103, rfl, rfl, ?_⟩
      obtain ⟨c0_0, h⟩ := h
      refine am_Wrun 5 (ps := [0 ≤ (a0 : Int) ∧ (a0 : Int) < 60]) (pc' := 112) (lv' := [(0, .inr (.inl (some 0))), (1, .inl (a0)), (2, .inl (a1))]) (st' := [.inl (M2 5 a0)]) (M' := M2) rfl ⟨c0_0, trivial⟩ ?_
      exact am_Wreti rfl rfl h
    | 5, _, e2 =>
      have h := j5 e2
      refine ⟨_, 113, rfl, rfl, ?_⟩
      refine am_Wrun 3 (ps := []) (pc' := 118) (lv' := [(0, .inr (.inl (some 0))), (1, .inl (a0)), (2, .inl (a1))]) (st' := [.inl (a0), .inr (.inl (some 1))]) (M' := M2) rfl trivial ?_
      refine am_WcallV (y := 10) (n := 2) (a := 1) (f := 121) (as := [.inl (a0)]) (st' := []) rfl rfl rfl rfl rfl rfl rfl rfl rfl rfl (Nat.zero_le _) rfl (am_CC_le (Nat.le_of_ble_eq_true rfl) (tm_X2_earlierKept h)) (fun r M8 q => ?_) (fun _ _ q => q.elim)
      obtain ⟨x7, rfl, h⟩ := q
      exact am_Wreti rfl rfl h
    | 6, _, e2 =>
      have h := j6 e2
      refine ⟨_, 122, rfl, rfl, ?_⟩
      refine am_Wrun 3 (ps := []) (pc' := 127) (lv' := [(0, .inr (.inl (some 0))), (1, .inl (a0)), (2, .inl (a1))]) (st' := [.inl (a0), .inr (.inl (some 1))]) (M' := M2) rfl trivial ?_
      refine am_WcallV (y := 13) (n := 2) (a := 1) (f := 130) (as := [.inl (a0)]) (st' := []) rfl rfl rfl rfl rfl rfl rfl rfl rfl rfl (Nat.zero_le _) rfl (am_CC_le (Nat.le_of_ble_eq_true rfl) (tm_X2_laterKept h)) (fun r M10 q => ?_) (fun _ _ q => q.elim)
      obtain ⟨x9, rfl, h⟩ := q
      exact am_Wreti rfl rfl h
    | n + 7, hj, _ => exact absurd hj (by omega)
abbrev dt_L_point : am_D := (tk_L_point, 9, 5, some .int, tb_hn 210)
def wp_L_point (a1 : Int) (a2 : Int) (M : am_M) (Q : Int → am_M → Prop) : Prop := wp_X5_point a1 a2 M (fun x1 M2 => (am_rg x1) ∧ (Q 0 (am_up M2 80 0 x1))) (fun E M3 => (E = 2 ∧ Q 1 M3) ∨ (E = 0 ∧ Q 2 M3))
set_option maxRecDepth 20000 in
theorem tm_L_point {a1 a2 : Int} {M : am_M} {Q : Int → am_M → Prop} (h : wp_L_point a1 a2 M Q) : am_CC 8 210 [.inr (.inl (some 0)), .inl (a1), .inl (a2), .inr (.inl (some 80))] M (am_QI Q) (fun _ _ => False) := by
  refine ⟨Nat.le_of_ble_eq_true rfl, ?_⟩
  show am_W (am_CC 7) dt_L_point 7 1 none (am_QI Q) (am_qx 210 (fun _ _ => False)) (0, 0, [(0, .inr (.inl (some 0))), (1, .inl (a1)), (2, .inl (a2)), (3, .inr (.inl (some 80)))], [], M)
  refine am_Wrun 5 (ps := []) (pc' := 5) (lv' := [(0, .inr (.inl (some 0))), (1, .inl (a1)), (2, .inl (a2)), (3, .inr (.inl (some 80)))]) (st' := [.inl (a2), .inl (a1), .inr (.inl (some 0)), .inl (0), .inr (.inl (some 80))]) (M' := M) rfl trivial ?_
  refine am_WcallV (y := 43) (n := 3) (a := 0) (f := 8) (as := [.inl (a1), .inl (a2)]) (st' := [.inl (0), .inr (.inl (some 80))]) rfl rfl rfl rfl rfl rfl rfl rfl rfl rfl (Nat.zero_le _) rfl (am_CC_le (Nat.le_of_ble_eq_true rfl) (tm_X5_point h)) (fun r M2 q => ?_) (fun E M3 q => ?_)
  · obtain ⟨x1, rfl, h⟩ := q
    obtain ⟨c0_0, h⟩ := h
    refine am_Wrun 4 (ps := [am_rg x1, 0 ≤ (0 : Int) ∧ (0 : Int) < 1]) (pc' := 22) (lv' := [(0, .inr (.inl (some 0))), (1, .inl (a1)), (2, .inl (a2)), (3, .inr (.inl (some 80)))]) (st' := [.inl (0)]) (M' := (am_up M2 80 0 x1)) rfl ⟨c0_0, ⟨by decide, by decide⟩, trivial⟩ ?_
    exact am_Wreti rfl rfl h
  · rcases q with ⟨rfl, h⟩ | ⟨rfl, h⟩
    · show 0 + 1 ≤ 1 ∧ am_W (am_CC 7) dt_L_point 7 1 none (am_QI Q) _ (0 + 1, 15, [(0, .inr (.inl (some 0))), (1, .inl (a1)), (2, .inl (a2)), (3, .inr (.inl (some 80)))], [], M3)
      refine ⟨Nat.le_refl _, ?_⟩
      refine am_Wrun 1 (ps := []) (pc' := 16) (lv' := [(0, .inr (.inl (some 0))), (1, .inl (a1)), (2, .inl (a2)), (3, .inr (.inl (some 80)))]) (st' := [.inl (1)]) (M' := M3) rfl trivial ?_
      exact am_Wreti rfl rfl h
    · show 0 + 1 ≤ 1 ∧ am_W (am_CC 7) dt_L_point 7 1 none (am_QI Q) _ (0 + 1, 19, [(0, .inr (.inl (some 0))), (1, .inl (a1)), (2, .inl (a2)), (3, .inr (.inl (some 80)))], [], M3)
      refine ⟨Nat.le_refl _, ?_⟩
      refine am_Wrun 1 (ps := []) (pc' := 20) (lv' := [(0, .inr (.inl (some 0))), (1, .inl (a1)), (2, .inl (a2)), (3, .inr (.inl (some 80)))]) (st' := [.inl (2)]) (M' := M3) rfl trivial ?_
      exact am_Wreti rfl rfl h
abbrev dt_X6_orNone : am_D := (tk_X6_orNone, 6, 1, some .int, tb_hn 168)
def wp_X6_orNone (a0 : Int) (M : am_M) (Q : Int → am_M → Prop) : Prop := (am_rg a0) ∧ (0 ≤ a0 → Q a0 M) ∧ (¬ 0 ≤ a0 → Q (-1000000) M)
set_option maxRecDepth 20000 in
theorem tm_X6_orNone {a0 : Int} {M : am_M} {Q : Int → am_M → Prop} (h : wp_X6_orNone a0 M Q) : am_CC 1 168 [.inl (a0)] M (am_QI Q) (fun _ _ => False) := by
  refine ⟨Nat.le_of_ble_eq_true rfl, ?_⟩
  show am_W (am_CC 0) dt_X6_orNone 0 0 none (am_QI Q) (am_qx 168 (fun _ _ => False)) (0, 0, [(0, .inl (a0))], [], M)
  refine am_Wrun 1 (ps := []) (pc' := 1) (lv' := [(0, .inl (a0))]) (st' := [.inl (a0)]) (M' := M) rfl trivial ?_
  obtain ⟨b0, ht, hf⟩ := h
  refine am_Wbr (P := [am_rg a0]) (c := 0 ≤ a0) (t := 9) (f := 4) (st' := []) rfl rfl ⟨b0, trivial⟩ rfl (fun q => ?_) (fun q => ?_)
  · have h := ht q
    refine am_Wrun 1 (ps := []) (pc' := 10) (lv' := [(0, .inl (a0))]) (st' := [.inl (a0)]) (M' := M) rfl trivial ?_
    exact am_Wreti rfl rfl h
  · have h := hf q
    refine am_Wrun 2 (ps := []) (pc' := 10) (lv' := [(0, .inl (a0))]) (st' := [.inl ((-1000000))]) (M' := M) rfl trivial ?_
    exact am_Wreti rfl rfl h
abbrev dt_X6_aboutPoint : am_D := (tk_X6_aboutPoint, 6, 3, some .int, tb_hn 167)
def wj_X6_aboutPoint_117 (Q : Int → am_M → Prop) (s0 : Int) (M : am_M) : Prop := wp_X6_orNone s0 M (fun x2 M3 => Q x2 M3)
def wj_X6_aboutPoint_96 (Q : Int → am_M → Prop) (v1 : Int) (v2 : Int) (M : am_M) : Prop := wp_X6_neighbors v1 M (fun M1 => (am_rg v2) ∧ (¬ v2 = 5 → wj_X6_aboutPoint_117 Q (M1 69 10) M1) ∧ (¬ (¬ v2 = 5) → wj_X6_aboutPoint_117 Q (M1 69 9) M1))
def wp_X6_aboutPoint (a0 : Int) (a1 : Int) (M : am_M) (Q : Int → am_M → Prop) : Prop := (am_rg a1) ∧ ((a1 < 0 ∨ 7 < a1) → wj_X6_aboutPoint_96 Q a0 a1 M) ∧ (a1 = 0 → wp_X6_time a0 M (fun x4 M5 => Q x4 M5)) ∧ (a1 = 1 → wp_X6_value a0 M (fun x6 M7 => Q x6 M7)) ∧ (a1 = 2 → (0 ≤ (127 + a0 : Int) ∧ (127 + a0 : Int) < 203) ∧ (Q (M 70 (127 + a0)) M)) ∧ (a1 = 3 → wp_X6_isBroken a0 M (fun x8 M9 => (am_rg x8) ∧ (x8 = 0 → Q 0 M9) ∧ (¬ x8 = 0 → Q 1 M9))) ∧ (a1 = 4 → wp_X6_stretchOf a0 M (fun x10 M11 => Q x10 M11)) ∧ (a1 = 5 → wj_X6_aboutPoint_96 Q a0 a1 M) ∧ (a1 = 6 → wj_X6_aboutPoint_96 Q a0 a1 M) ∧ (a1 = 7 → wp_X6_against a0 M (fun x12 M13 => Q x12 M13))
set_option maxRecDepth 20000 in
theorem tj_X6_aboutPoint_117 {Q : Int → am_M → Prop} {QX : am_X} (s0 : Int) (M : am_M) (h : wj_X6_aboutPoint_117 Q s0 M) : am_W (am_CC 7) dt_X6_aboutPoint 7 0 none (am_QI Q) QX (0, 117, [], [.inl (s0)], M) := by
  refine am_WcallS (y := 168) (n := 1) (f := 120) (co := 0) (as := [.inl (s0)]) (st' := []) rfl rfl rfl rfl rfl rfl rfl rfl rfl (Nat.zero_le _) rfl (am_CC_le (Nat.le_of_ble_eq_true rfl) (tm_X6_orNone h)) (fun r M3 q => ?_) (fun _ _ q => q.elim)
  obtain ⟨x2, rfl, h⟩ := q
  exact am_Wreti rfl rfl h
set_option maxRecDepth 20000 in
theorem tj_X6_aboutPoint_96 {Q : Int → am_M → Prop} {QX : am_X} (v1 : Int) (v2 : Int) (M : am_M) (h : wj_X6_aboutPoint_96 Q v1 v2 M) : am_W (am_CC 7) dt_X6_aboutPoint 7 0 none (am_QI Q) QX (0, 96, [(0, .inr (.inl (some 69))), (1, .inl (v1)), (2, .inl (v2))], [], M) := by
  refine am_Wrun 2 (ps := []) (pc' := 98) (lv' := [(0, .inr (.inl (some 69))), (1, .inl (v1)), (2, .inl (v2))]) (st' := [.inl (v1), .inr (.inl (some 69))]) (M' := M) rfl trivial ?_
  refine am_WcallV (y := 124) (n := 2) (a := 69) (f := 101) (as := [.inl (v1)]) (st' := []) rfl rfl rfl rfl rfl rfl rfl rfl rfl rfl (Nat.zero_le _) rfl (am_CC_le (Nat.le_of_ble_eq_true rfl) (tm_X6_neighbors h)) (fun r M1 q => ?_) (fun _ _ q => q.elim)
  obtain ⟨rfl, h⟩ := q
  refine am_Wrun 2 (ps := []) (pc' := 103) (lv' := [(0, .inr (.inl (some 69))), (1, .inl (v1)), (2, .inl (v2))]) (st' := [.inl (5), .inl (v2)]) (M' := M1) rfl trivial ?_
  obtain ⟨b0, ht, hf⟩ := h
  refine am_Wbr (P := [am_rg v2, am_rg 5]) (c := ¬ v2 = 5) (t := 113) (f := 106) (st' := []) rfl rfl ⟨b0, (am_rgd rfl), trivial⟩ rfl (fun q => ?_) (fun q => ?_)
  · have h := ht q
    refine am_Wrun 2 (ps := []) (pc' := 117) (lv' := [(0, .inr (.inl (some 69))), (1, .inl (v1)), (2, .inl (v2))]) (st' := [.inl (M1 69 10)]) (M' := M1) rfl trivial ?_
    refine am_W_sub [] rfl ?_
    exact tj_X6_aboutPoint_117 (M1 69 10) M1 h
  · have h := hf q
    refine am_Wrun 3 (ps := []) (pc' := 117) (lv' := [(0, .inr (.inl (some 69))), (1, .inl (v1)), (2, .inl (v2))]) (st' := [.inl (M1 69 9)]) (M' := M1) rfl trivial ?_
    refine am_W_sub [] rfl ?_
    exact tj_X6_aboutPoint_117 (M1 69 9) M1 h
set_option maxRecDepth 20000 in
theorem tm_X6_aboutPoint {a0 a1 : Int} {M : am_M} {Q : Int → am_M → Prop} (h : wp_X6_aboutPoint a0 a1 M Q) : am_CC 8 167 [.inr (.inl (some 69)), .inl (a0), .inl (a1)] M (am_QI Q) (fun _ _ => False) := by
  refine ⟨Nat.le_of_ble_eq_true rfl, ?_⟩
  show am_W (am_CC 7) dt_X6_aboutPoint 7 0 none (am_QI Q) (am_qx 167 (fun _ _ => False)) (0, 0, [(0, .inr (.inl (some 69))), (1, .inl (a0)), (2, .inl (a1))], [], M)
  refine am_Wrun 1 (ps := []) (pc' := 1) (lv' := [(0, .inr (.inl (some 69))), (1, .inl (a0)), (2, .inl (a1))]) (st' := [.inl (a1)]) (M' := M) rfl trivial ?_
  obtain ⟨c0, hd, j0, j1, j2, j3, j4, j5, j6, j7⟩ := h
  refine am_Wsw (n := 8) (t := 96) rfl c0 rfl (by decide) (fun q => ?_) (fun j hj e2 => ?_)
  · have h := hd q
    refine am_W_sub [0, 1, 2] rfl ?_
    exact tj_X6_aboutPoint_96 a0 a1 M h
  · match j, hj, e2 with
    | 0, _, e2 =>
      have h := j0 e2
      refine ⟨_, 48, rfl, rfl, ?_⟩
      refine am_Wrun 2 (ps := []) (pc' := 50) (lv' := [(0, .inr (.inl (some 69))), (1, .inl (a0)), (2, .inl (a1))]) (st' := [.inl (a0), .inr (.inl (some 69))]) (M' := M) rfl trivial ?_
      refine am_WcallV (y := 115) (n := 2) (a := 69) (f := 53) (as := [.inl (a0)]) (st' := []) rfl rfl rfl rfl rfl rfl rfl rfl rfl rfl (Nat.zero_le _) rfl (am_CC_le (Nat.le_of_ble_eq_true rfl) (tm_X6_time h)) (fun r M5 q => ?_) (fun _ _ q => q.elim)
      obtain ⟨x4, rfl, h⟩ := q
      exact am_Wreti rfl rfl h
    | 1, _, e2 =>
      have h := j1 e2
      refine ⟨_, 54, rfl, rfl, ?_⟩
      refine am_Wrun 2 (ps := []) (pc' := 56) (lv' := [(0, .inr (.inl (some 69))), (1, .inl (a0)), (2, .inl (a1))]) (st' := [.inl (a0), .inr (.inl (some 69))]) (M' := M) rfl trivial ?_
      refine am_WcallV (y := 120) (n := 2) (a := 69) (f := 59) (as := [.inl (a0)]) (st' := []) rfl rfl rfl rfl rfl rfl rfl rfl rfl rfl (Nat.zero_le _) rfl (am_CC_le (Nat.le_of_ble_eq_true rfl) (tm_X6_value h)) (fun r M7 q => ?_) (fun _ _ q => q.elim)
      obtain ⟨x6, rfl, h⟩ := q
      exact am_Wreti rfl rfl h
    | 2, _, e2 =>
      have h := j2 e2
      refine ⟨_, 60, rfl, rfl, ?_⟩
      obtain ⟨c1_0, h⟩ := h
      refine am_Wrun 6 (ps := [-128 ≤ (127 : Int) ∧ (127 : Int) ≤ 127, 0 ≤ (127 + a0 : Int) ∧ (127 + a0 : Int) < 203]) (pc' := 69) (lv' := [(0, .inr (.inl (some 69))), (1, .inl (a0)), (2, .inl (a1))]) (st' := [.inl (M 70 (127 + a0))]) (M' := M) rfl ⟨⟨by decide, by decide⟩, c1_0, trivial⟩ ?_
      exact am_Wreti rfl rfl h
    | 3, _, e2 =>
      have h := j3 e2
      refine ⟨_, 70, rfl, rfl, ?_⟩
      refine am_Wrun 2 (ps := []) (pc' := 72) (lv' := [(0, .inr (.inl (some 69))), (1, .inl (a0)), (2, .inl (a1))]) (st' := [.inl (a0), .inr (.inl (some 69))]) (M' := M) rfl trivial ?_
      refine am_WcallV (y := 138) (n := 2) (a := 69) (f := 75) (as := [.inl (a0)]) (st' := []) rfl rfl rfl rfl rfl rfl rfl rfl rfl rfl (Nat.zero_le _) rfl (am_CC_le (Nat.le_of_ble_eq_true rfl) (tm_X6_isBroken h)) (fun r M9 q => ?_) (fun _ _ q => q.elim)
      obtain ⟨x8, rfl, h⟩ := q
      obtain ⟨b0, ht, hf⟩ := h
      refine am_Wbr (P := [am_rg x8]) (c := x8 = 0) (t := 82) (f := 78) (st' := []) rfl rfl ⟨b0, trivial⟩ rfl (fun q => ?_) (fun q => ?_)
      · have h := ht q
        refine am_Wrun 1 (ps := []) (pc' := 83) (lv' := [(0, .inr (.inl (some 69))), (1, .inl (a0)), (2, .inl (a1))]) (st' := [.inl (0)]) (M' := M9) rfl trivial ?_
        exact am_Wreti rfl rfl h
      · have h := hf q
        refine am_Wrun 2 (ps := []) (pc' := 83) (lv' := [(0, .inr (.inl (some 69))), (1, .inl (a0)), (2, .inl (a1))]) (st' := [.inl (1)]) (M' := M9) rfl trivial ?_
        exact am_Wreti rfl rfl h
    | 4, _, e2 =>
      have h := j4 e2
      refine ⟨_, 84, rfl, rfl, ?_⟩
      refine am_Wrun 2 (ps := []) (pc' := 86) (lv' := [(0, .inr (.inl (some 69))), (1, .inl (a0)), (2, .inl (a1))]) (st' := [.inl (a0), .inr (.inl (some 69))]) (M' := M) rfl trivial ?_
      refine am_WcallV (y := 126) (n := 2) (a := 69) (f := 89) (as := [.inl (a0)]) (st' := []) rfl rfl rfl rfl rfl rfl rfl rfl rfl rfl (Nat.zero_le _) rfl (am_CC_le (Nat.le_of_ble_eq_true rfl) (tm_X6_stretchOf h)) (fun r M11 q => ?_) (fun _ _ q => q.elim)
      obtain ⟨x10, rfl, h⟩ := q
      exact am_Wreti rfl rfl h
    | 5, _, e2 =>
      have h := j5 e2
      refine ⟨_, 96, rfl, rfl, ?_⟩
      refine am_W_sub [0, 1, 2] rfl ?_
      exact tj_X6_aboutPoint_96 a0 a1 M h
    | 6, _, e2 =>
      have h := j6 e2
      refine ⟨_, 96, rfl, rfl, ?_⟩
      refine am_W_sub [0, 1, 2] rfl ?_
      exact tj_X6_aboutPoint_96 a0 a1 M h
    | 7, _, e2 =>
      have h := j7 e2
      refine ⟨_, 90, rfl, rfl, ?_⟩
      refine am_Wrun 2 (ps := []) (pc' := 92) (lv' := [(0, .inr (.inl (some 69))), (1, .inl (a0)), (2, .inl (a1))]) (st' := [.inl (a0), .inr (.inl (some 69))]) (M' := M) rfl trivial ?_
      refine am_WcallV (y := 122) (n := 2) (a := 69) (f := 95) (as := [.inl (a0)]) (st' := []) rfl rfl rfl rfl rfl rfl rfl rfl rfl rfl (Nat.zero_le _) rfl (am_CC_le (Nat.le_of_ble_eq_true rfl) (tm_X6_against h)) (fun r M13 q => ?_) (fun _ _ q => q.elim)
      obtain ⟨x12, rfl, h⟩ := q
      exact am_Wreti rfl rfl h
    | n + 8, hj, _ => exact absurd hj (by omega)
abbrev dt_X6_point : am_D := (tk_X6_point, 6, 3, some .int, tb_hn 166)
def wp_X6_point (a0 : Int) (a1 : Int) (M : am_M) (Q : Int → am_M → Prop) : Prop := wp_X6_isPoint a0 (am_up M 69 5 0) (fun x1 M2 => (am_rg x1) ∧ (¬ x1 = 0 → wp_X6_in a1 0 7 M2 (fun x3 M4 => (am_rg x3) ∧ (x3 = 0 → wp_X6_fails 2 M4 (fun x5 M6 => Q x5 M6)) ∧ (¬ x3 = 0 → wp_X6_aboutPoint a0 a1 M4 (fun x7 M8 => Q x7 M8)))) ∧ (¬ (¬ x1 = 0) → wp_X6_fails 1 M2 (fun x9 M10 => Q x9 M10)))
set_option maxRecDepth 20000 in
theorem tm_X6_point {a0 a1 : Int} {M : am_M} {Q : Int → am_M → Prop} (h : wp_X6_point a0 a1 M Q) : am_CC 9 166 [.inr (.inl (some 69)), .inl (a0), .inl (a1)] M (am_QI Q) (fun _ _ => False) := by
  refine ⟨Nat.le_of_ble_eq_true rfl, ?_⟩
  show am_W (am_CC 8) dt_X6_point 8 0 none (am_QI Q) (am_qx 166 (fun _ _ => False)) (0, 0, [(0, .inr (.inl (some 69))), (1, .inl (a0)), (2, .inl (a1))], [], M)
  refine am_Wrun 5 (ps := []) (pc' := 7) (lv' := [(0, .inr (.inl (some 69))), (1, .inl (a0)), (2, .inl (a1))]) (st' := [.inl (a0), .inr (.inl (some 69))]) (M' := (am_up M 69 5 0)) rfl trivial ?_
  refine am_WcallV (y := 119) (n := 2) (a := 69) (f := 10) (as := [.inl (a0)]) (st' := []) rfl rfl rfl rfl rfl rfl rfl rfl rfl rfl (Nat.zero_le _) rfl (am_CC_le (Nat.le_of_ble_eq_true rfl) (tm_X6_isPoint h)) (fun r M2 q => ?_) (fun _ _ q => q.elim)
  obtain ⟨x1, rfl, h⟩ := q
  obtain ⟨b0, ht, hf⟩ := h
  refine am_Wbr (P := [am_rg x1]) (c := ¬ x1 = 0) (t := 19) (f := 13) (st' := []) rfl rfl ⟨b0, trivial⟩ rfl (fun q => ?_) (fun q => ?_)
  · have h := ht q
    refine am_Wrun 3 (ps := [-128 ≤ (7 : Int) ∧ (7 : Int) ≤ 127]) (pc' := 23) (lv' := [(0, .inr (.inl (some 69))), (1, .inl (a0)), (2, .inl (a1))]) (st' := [.inl (7), .inl (0), .inl (a1)]) (M' := M2) rfl ⟨⟨by decide, by decide⟩, trivial⟩ ?_
    refine am_WcallS (y := 112) (n := 3) (f := 26) (co := 0) (as := [.inl (a1), .inl (0), .inl (7)]) (st' := []) rfl rfl rfl rfl rfl rfl rfl rfl rfl (Nat.zero_le _) rfl (am_CC_le (Nat.le_of_ble_eq_true rfl) (tm_X6_in h)) (fun r M4 q => ?_) (fun _ _ q => q.elim)
    obtain ⟨x3, rfl, h⟩ := q
    obtain ⟨b0, ht, hf⟩ := h
    refine am_Wbr (P := [am_rg x3]) (c := x3 = 0) (t := 38) (f := 29) (st' := []) rfl rfl ⟨b0, trivial⟩ rfl (fun q => ?_) (fun q => ?_)
    · have h := ht q
      refine am_Wrun 2 (ps := []) (pc' := 40) (lv' := [(0, .inr (.inl (some 69))), (1, .inl (a0)), (2, .inl (a1))]) (st' := [.inl (2), .inr (.inl (some 69))]) (M' := M4) rfl trivial ?_
      refine am_WcallV (y := 113) (n := 2) (a := 69) (f := 43) (as := [.inl (2)]) (st' := []) rfl rfl rfl rfl rfl rfl rfl rfl rfl rfl (Nat.zero_le _) rfl (am_CC_le (Nat.le_of_ble_eq_true rfl) (tm_X6_fails h)) (fun r M6 q => ?_) (fun _ _ q => q.elim)
      obtain ⟨x5, rfl, h⟩ := q
      exact am_Wreti rfl rfl h
    · have h := hf q
      refine am_Wrun 3 (ps := []) (pc' := 32) (lv' := [(0, .inr (.inl (some 69))), (1, .inl (a0)), (2, .inl (a1))]) (st' := [.inl (a1), .inl (a0), .inr (.inl (some 69))]) (M' := M4) rfl trivial ?_
      refine am_WcallV (y := 167) (n := 3) (a := 69) (f := 35) (as := [.inl (a0), .inl (a1)]) (st' := []) rfl rfl rfl rfl rfl rfl rfl rfl rfl rfl (Nat.zero_le _) rfl (am_CC_le (Nat.le_of_ble_eq_true rfl) (tm_X6_aboutPoint h)) (fun r M8 q => ?_) (fun _ _ q => q.elim)
      obtain ⟨x7, rfl, h⟩ := q
      refine am_Wrun 1 (ps := []) (pc' := 43) (lv' := [(0, .inr (.inl (some 69))), (1, .inl (a0)), (2, .inl (a1))]) (st' := [.inl (x7)]) (M' := M8) rfl trivial ?_
      exact am_Wreti rfl rfl h
  · have h := hf q
    refine am_Wrun 2 (ps := []) (pc' := 15) (lv' := [(0, .inr (.inl (some 69))), (1, .inl (a0)), (2, .inl (a1))]) (st' := [.inl (1), .inr (.inl (some 69))]) (M' := M2) rfl trivial ?_
    refine am_WcallV (y := 113) (n := 2) (a := 69) (f := 18) (as := [.inl (1)]) (st' := []) rfl rfl rfl rfl rfl rfl rfl rfl rfl rfl (Nat.zero_le _) rfl (am_CC_le (Nat.le_of_ble_eq_true rfl) (tm_X6_fails h)) (fun r M10 q => ?_) (fun _ _ q => q.elim)
    obtain ⟨x9, rfl, h⟩ := q
    exact am_Wreti rfl rfl h
abbrev dt_X1_findError : am_D := (tk_X1_findError, 1, 3, some .boolean, tb_hn 39)
def wp_X1_findError (a0 : Int) (M : am_M) (Q : Int → am_M → Prop) : Prop := wp_X2_isKept a0 M (fun x1 M2 => (am_rg x1) ∧ (x1 = 0 → wp_X2_earlierKept a0 M2 (fun x3 M4 => wp_X2_laterKept a0 M4 (fun x5 M6 => wp_X1_findMiss x3 x5 a0 M6 (fun x7 M8 => wp_X1_shorten M8 (fun M9 => (x7 = 0 ∨ x7 = 1) ∧ Q x7 M9))))) ∧ (¬ x1 = 0 → Q 1 (am_up (am_up M2 9 1 0) 9 2 1)))
set_option maxRecDepth 20000 in
theorem tm_X1_findError {a0 : Int} {M : am_M} {Q : Int → am_M → Prop} (h : wp_X1_findError a0 M Q) : am_CC 3 39 [.inr (.inl (some 9)), .inl (a0)] M (am_QI Q) (fun _ _ => False) := by
  refine ⟨Nat.le_of_ble_eq_true rfl, ?_⟩
  show am_W (am_CC 2) dt_X1_findError 2 0 none (am_QI Q) (am_qx 39 (fun _ _ => False)) (0, 0, [(0, .inr (.inl (some 9))), (1, .inl (a0))], [], M)
  refine am_Wrun 3 (ps := []) (pc' := 5) (lv' := [(0, .inr (.inl (some 9))), (1, .inl (a0))]) (st' := [.inl (a0), .inr (.inl (some 1))]) (M' := M) rfl trivial ?_
  refine am_WcallV (y := 8) (n := 2) (a := 1) (f := 8) (as := [.inl (a0)]) (st' := []) rfl rfl rfl rfl rfl rfl rfl rfl rfl rfl (Nat.zero_le _) rfl (am_CC_le (Nat.le_of_ble_eq_true rfl) (tm_X2_isKept h)) (fun r M2 q => ?_) (fun _ _ q => q.elim)
  obtain ⟨x1, rfl, h⟩ := q
  obtain ⟨b0, ht, hf⟩ := h
  refine am_Wbr (P := [am_rg x1]) (c := x1 = 0) (t := 23) (f := 11) (st' := []) rfl rfl ⟨b0, trivial⟩ rfl (fun q => ?_) (fun q => ?_)
  · have h := ht q
    refine am_Wrun 4 (ps := []) (pc' := 29) (lv' := [(0, .inr (.inl (some 9))), (1, .inl (a0))]) (st' := [.inl (a0), .inr (.inl (some 1)), .inr (.inl (some 9))]) (M' := M2) rfl trivial ?_
    refine am_WcallV (y := 10) (n := 2) (a := 1) (f := 32) (as := [.inl (a0)]) (st' := [.inr (.inl (some 9))]) rfl rfl rfl rfl rfl rfl rfl rfl rfl rfl (Nat.zero_le _) rfl (am_CC_le (Nat.le_of_ble_eq_true rfl) (tm_X2_earlierKept h)) (fun r M4 q => ?_) (fun _ _ q => q.elim)
    obtain ⟨x3, rfl, h⟩ := q
    refine am_Wrun 3 (ps := []) (pc' := 37) (lv' := [(0, .inr (.inl (some 9))), (1, .inl (a0))]) (st' := [.inl (a0), .inr (.inl (some 1)), .inl (x3), .inr (.inl (some 9))]) (M' := M4) rfl trivial ?_
    refine am_WcallV (y := 13) (n := 2) (a := 1) (f := 40) (as := [.inl (a0)]) (st' := [.inl (x3), .inr (.inl (some 9))]) rfl rfl rfl rfl rfl rfl rfl rfl rfl rfl (Nat.zero_le _) rfl (am_CC_le (Nat.le_of_ble_eq_true rfl) (tm_X2_laterKept h)) (fun r M6 q => ?_) (fun _ _ q => q.elim)
    obtain ⟨x5, rfl, h⟩ := q
    refine am_Wrun 1 (ps := []) (pc' := 41) (lv' := [(0, .inr (.inl (some 9))), (1, .inl (a0))]) (st' := [.inl (a0), .inl (x5), .inl (x3), .inr (.inl (some 9))]) (M' := M6) rfl trivial ?_
    refine am_WcallV (y := 15) (n := 4) (a := 9) (f := 44) (as := [.inl (x3), .inl (x5), .inl (a0)]) (st' := []) rfl rfl rfl rfl rfl rfl rfl rfl rfl rfl (Nat.zero_le _) rfl (am_CC_le (Nat.le_of_ble_eq_true rfl) (tm_X1_findMiss h)) (fun r M8 q => ?_) (fun _ _ q => q.elim)
    obtain ⟨x7, rfl, h⟩ := q
    refine am_Wrun 2 (ps := []) (pc' := 46) (lv' := [(2, .inl (x7)), (0, .inr (.inl (some 9))), (1, .inl (a0))]) (st' := [.inr (.inl (some 9))]) (M' := M8) rfl trivial ?_
    refine am_WcallV (y := 21) (n := 1) (a := 9) (f := 49) (as := []) (st' := []) rfl rfl rfl rfl rfl rfl rfl rfl rfl rfl (Nat.zero_le _) rfl (am_CC_le (Nat.le_of_ble_eq_true rfl) (tm_X1_shorten h)) (fun r M9 q => ?_) (fun _ _ q => q.elim)
    obtain ⟨rfl, h⟩ := q
    refine am_Wrun 1 (ps := []) (pc' := 50) (lv' := [(2, .inl (x7)), (0, .inr (.inl (some 9))), (1, .inl (a0))]) (st' := [.inl (x7)]) (M' := M9) rfl trivial ?_
    exact am_Wretz rfl rfl h.1 h.2
  · have h := hf q
    refine am_Wrun 7 (ps := []) (pc' := 22) (lv' := [(0, .inr (.inl (some 9))), (1, .inl (a0))]) (st' := [.inl (1)]) (M' := (am_up (am_up M2 9 1 0) 9 2 1)) rfl trivial ?_
    exact am_Wretz rfl rfl (Or.inr rfl) h
abbrev dt_X5_error : am_D := (tk_X5_error, 5, 3, some .int, tb_hn 48)
def wp_X5_error (a0 : Int) (a1 : Int) (M : am_M) (Q : Int → am_M → Prop) (X : am_X) : Prop := wp_X5_refuseNoPoint a0 M (fun M1 => wp_X5_refuseOutside a1 1 M1 (fun M2 => wp_X1_findError a0 M2 (fun x3 M4 => (am_rg x3) ∧ (¬ x3 = 0 → (am_rg a1) ∧ (¬ a1 = 0 → Q (M4 9 2) M4) ∧ (¬ (¬ a1 = 0) → Q (M4 9 1) M4)) ∧ (¬ (¬ x3 = 0) → Q (-1000000) M4))) X) X
set_option maxRecDepth 20000 in
theorem tm_X5_error {a0 a1 : Int} {M : am_M} {Q : Int → am_M → Prop} {X : am_X} (h : wp_X5_error a0 a1 M Q X) : am_CC 7 48 [.inr (.inl (some 0)), .inl (a0), .inl (a1)] M (am_QI Q) X := by
  refine ⟨Nat.le_of_ble_eq_true rfl, ?_⟩
  show am_W (am_CC 6) dt_X5_error 6 0 none (am_QI Q) (am_qx 48 X) (0, 0, [(0, .inr (.inl (some 0))), (1, .inl (a0)), (2, .inl (a1))], [], M)
  have hX : ∀ E M, X E M → am_qx 48 X E M := fun E M q => ⟨⟨rfl, by decide⟩, q⟩
  refine am_Wrun 2 (ps := []) (pc' := 2) (lv' := [(0, .inr (.inl (some 0))), (1, .inl (a0)), (2, .inl (a1))]) (st' := [.inl (a0), .inr (.inl (some 0))]) (M' := M) rfl trivial ?_
  refine am_WcallV (y := 44) (n := 2) (a := 0) (f := 5) (as := [.inl (a0)]) (st' := []) rfl rfl rfl rfl rfl rfl rfl rfl rfl rfl (Nat.zero_le _) rfl (am_CC_le (Nat.le_of_ble_eq_true rfl) (tm_X5_refuseNoPoint h)) (fun r M1 q => ?_) (fun E M q => hX _ _ q)
  obtain ⟨rfl, h⟩ := q
  refine am_Wrun 2 (ps := []) (pc' := 7) (lv' := [(0, .inr (.inl (some 0))), (1, .inl (a0)), (2, .inl (a1))]) (st' := [.inl (1), .inl (a1)]) (M' := M1) rfl trivial ?_
  refine am_WcallS (y := 34) (n := 2) (f := 10) (co := 0) (as := [.inl (a1), .inl (1)]) (st' := []) rfl rfl rfl rfl rfl rfl rfl rfl rfl (Nat.zero_le _) rfl (am_CC_le (Nat.le_of_ble_eq_true rfl) (tm_X5_refuseOutside h)) (fun r M2 q => ?_) (fun E M q => hX _ _ q)
  obtain ⟨rfl, h⟩ := q
  refine am_Wrun 3 (ps := []) (pc' := 15) (lv' := [(0, .inr (.inl (some 0))), (1, .inl (a0)), (2, .inl (a1))]) (st' := [.inl (a0), .inr (.inl (some 9))]) (M' := M2) rfl trivial ?_
  refine am_WcallV (y := 39) (n := 2) (a := 9) (f := 18) (as := [.inl (a0)]) (st' := []) rfl rfl rfl rfl rfl rfl rfl rfl rfl rfl (Nat.zero_le _) rfl (am_CC_le (Nat.le_of_ble_eq_true rfl) (tm_X1_findError h)) (fun r M4 q => ?_) (fun _ _ q => q.elim)
  obtain ⟨x3, rfl, h⟩ := q
  obtain ⟨b0, ht, hf⟩ := h
  refine am_Wbr (P := [am_rg x3]) (c := ¬ x3 = 0) (t := 24) (f := 21) (st' := []) rfl rfl ⟨b0, trivial⟩ rfl (fun q => ?_) (fun q => ?_)
  · have h := ht q
    refine am_Wrun 1 (ps := []) (pc' := 25) (lv' := [(0, .inr (.inl (some 0))), (1, .inl (a0)), (2, .inl (a1))]) (st' := [.inl (a1)]) (M' := M4) rfl trivial ?_
    obtain ⟨b0, ht, hf⟩ := h
    refine am_Wbr (P := [am_rg a1]) (c := ¬ a1 = 0) (t := 38) (f := 28) (st' := []) rfl rfl ⟨b0, trivial⟩ rfl (fun q => ?_) (fun q => ?_)
    · have h := ht q
      refine am_Wrun 3 (ps := []) (pc' := 45) (lv' := [(0, .inr (.inl (some 0))), (1, .inl (a0)), (2, .inl (a1))]) (st' := [.inl (M4 9 2)]) (M' := M4) rfl trivial ?_
      exact am_Wreti rfl rfl h
    · have h := hf q
      refine am_Wrun 4 (ps := []) (pc' := 45) (lv' := [(0, .inr (.inl (some 0))), (1, .inl (a0)), (2, .inl (a1))]) (st' := [.inl (M4 9 1)]) (M' := M4) rfl trivial ?_
      exact am_Wreti rfl rfl h
  · have h := hf q
    refine am_Wrun 1 (ps := []) (pc' := 23) (lv' := [(0, .inr (.inl (some 0))), (1, .inl (a0)), (2, .inl (a1))]) (st' := [.inl ((-1000000))]) (M' := M4) rfl trivial ?_
    exact am_Wreti rfl rfl h
abbrev dt_L_error : am_D := (tk_L_error, 9, 5, some .int, tb_hn 211)
def wp_L_error (a1 : Int) (a2 : Int) (M : am_M) (Q : Int → am_M → Prop) : Prop := wp_X5_error a1 a2 M (fun x1 M2 => (am_rg x1) ∧ (Q 0 (am_up M2 80 0 x1))) (fun E M3 => (E = 2 ∧ Q 1 M3) ∨ (E = 0 ∧ Q 2 M3))
set_option maxRecDepth 20000 in
theorem tm_L_error {a1 a2 : Int} {M : am_M} {Q : Int → am_M → Prop} (h : wp_L_error a1 a2 M Q) : am_CC 8 211 [.inr (.inl (some 0)), .inl (a1), .inl (a2), .inr (.inl (some 80))] M (am_QI Q) (fun _ _ => False) := by
  refine ⟨Nat.le_of_ble_eq_true rfl, ?_⟩
  show am_W (am_CC 7) dt_L_error 7 1 none (am_QI Q) (am_qx 211 (fun _ _ => False)) (0, 0, [(0, .inr (.inl (some 0))), (1, .inl (a1)), (2, .inl (a2)), (3, .inr (.inl (some 80)))], [], M)
  refine am_Wrun 5 (ps := []) (pc' := 5) (lv' := [(0, .inr (.inl (some 0))), (1, .inl (a1)), (2, .inl (a2)), (3, .inr (.inl (some 80)))]) (st' := [.inl (a2), .inl (a1), .inr (.inl (some 0)), .inl (0), .inr (.inl (some 80))]) (M' := M) rfl trivial ?_
  refine am_WcallV (y := 48) (n := 3) (a := 0) (f := 8) (as := [.inl (a1), .inl (a2)]) (st' := [.inl (0), .inr (.inl (some 80))]) rfl rfl rfl rfl rfl rfl rfl rfl rfl rfl (Nat.zero_le _) rfl (am_CC_le (Nat.le_of_ble_eq_true rfl) (tm_X5_error h)) (fun r M2 q => ?_) (fun E M3 q => ?_)
  · obtain ⟨x1, rfl, h⟩ := q
    obtain ⟨c0_0, h⟩ := h
    refine am_Wrun 4 (ps := [am_rg x1, 0 ≤ (0 : Int) ∧ (0 : Int) < 1]) (pc' := 22) (lv' := [(0, .inr (.inl (some 0))), (1, .inl (a1)), (2, .inl (a2)), (3, .inr (.inl (some 80)))]) (st' := [.inl (0)]) (M' := (am_up M2 80 0 x1)) rfl ⟨c0_0, ⟨by decide, by decide⟩, trivial⟩ ?_
    exact am_Wreti rfl rfl h
  · rcases q with ⟨rfl, h⟩ | ⟨rfl, h⟩
    · show 0 + 1 ≤ 1 ∧ am_W (am_CC 7) dt_L_error 7 1 none (am_QI Q) _ (0 + 1, 15, [(0, .inr (.inl (some 0))), (1, .inl (a1)), (2, .inl (a2)), (3, .inr (.inl (some 80)))], [], M3)
      refine ⟨Nat.le_refl _, ?_⟩
      refine am_Wrun 1 (ps := []) (pc' := 16) (lv' := [(0, .inr (.inl (some 0))), (1, .inl (a1)), (2, .inl (a2)), (3, .inr (.inl (some 80)))]) (st' := [.inl (1)]) (M' := M3) rfl trivial ?_
      exact am_Wreti rfl rfl h
    · show 0 + 1 ≤ 1 ∧ am_W (am_CC 7) dt_L_error 7 1 none (am_QI Q) _ (0 + 1, 19, [(0, .inr (.inl (some 0))), (1, .inl (a1)), (2, .inl (a2)), (3, .inr (.inl (some 80)))], [], M3)
      refine ⟨Nat.le_refl _, ?_⟩
      refine am_Wrun 1 (ps := []) (pc' := 20) (lv' := [(0, .inr (.inl (some 0))), (1, .inl (a1)), (2, .inl (a2)), (3, .inr (.inl (some 80)))]) (st' := [.inl (2)]) (M' := M3) rfl trivial ?_
      exact am_Wreti rfl rfl h
abbrev dt_X6_common : am_D := (tk_X6_common, 6, 5, some .int, tb_hn 172)
def wl_X6_common_4 (Q : Int → am_M → Prop) : Nat → Int → Int → am_M → Prop
  | 0, _, _, _ => False
  | n + 1, v2, v3, M => (am_rg v3) ∧ (v3 = 0 → Q v2 M) ∧ (¬ v3 = 0 → (am_rg v2 ∧ am_rg v3 ∧ (0 : Int) < v3) ∧ (wl_X6_common_4 Q n v3 (Int.tmod v2 v3) M))
def wp_X6_common (a0 : Int) (a1 : Int) (M : am_M) (Q : Int → am_M → Prop) : Prop := ∃ e4, wl_X6_common_4 Q e4 a0 a1 M
set_option maxRecDepth 20000 in
theorem tw_X6_common_4 {Q : Int → am_M → Prop} {QX : am_X} : ∀ (n : Nat) (v2 : Int) (v3 : Int) (M : am_M), wl_X6_common_4 Q n v2 v3 M → am_W (am_CC 0) dt_X6_common 0 0 none (am_QI Q) QX (0, 4, [(2, .inl (v2)), (3, .inl (v3))], [], M)
  | 0, _, _, _, h => h.elim
  | n + 1, v2, v3, M, h => by
    refine am_Wrun 1 (ps := []) (pc' := 5) (lv' := [(2, .inl (v2)), (3, .inl (v3))]) (st' := [.inl (v3)]) (M' := M) rfl trivial ?_
    obtain ⟨b0, ht, hf⟩ := h
    refine am_Wbr (P := [am_rg v3]) (c := v3 = 0) (t := 21) (f := 8) (st' := []) rfl rfl ⟨b0, trivial⟩ rfl (fun q => ?_) (fun q => ?_)
    · have h := ht q
      refine am_Wrun 1 (ps := []) (pc' := 22) (lv' := [(2, .inl (v2)), (3, .inl (v3))]) (st' := [.inl (v2)]) (M' := M) rfl trivial ?_
      exact am_Wreti rfl rfl h
    · have h := hf q
      obtain ⟨c0_0, h⟩ := h
      refine am_Wrun 9 (ps := [am_rg v2 ∧ am_rg v3 ∧ (0 : Int) < v3]) (pc' := 4) (lv' := [(3, .inl (Int.tmod v2 v3)), (2, .inl (v3)), (4, .inl (Int.tmod v2 v3))]) (st' := []) (M' := M) rfl ⟨c0_0, trivial⟩ ?_
      refine am_W_sub [1, 0] rfl ?_
      exact tw_X6_common_4 n v3 (Int.tmod v2 v3) M h
set_option maxRecDepth 20000 in
theorem tm_X6_common {a0 a1 : Int} {M : am_M} {Q : Int → am_M → Prop} (h : wp_X6_common a0 a1 M Q) : am_CC 1 172 [.inl (a0), .inl (a1)] M (am_QI Q) (fun _ _ => False) := by
  refine ⟨Nat.le_of_ble_eq_true rfl, ?_⟩
  show am_W (am_CC 0) dt_X6_common 0 0 none (am_QI Q) (am_qx 172 (fun _ _ => False)) (0, 0, [(0, .inl (a0)), (1, .inl (a1))], [], M)
  refine am_Wrun 4 (ps := []) (pc' := 4) (lv' := [(3, .inl (a1)), (2, .inl (a0)), (0, .inl (a0)), (1, .inl (a1))]) (st' := []) (M' := M) rfl trivial ?_
  refine am_W_sub [1, 0] rfl ?_
  obtain ⟨n4, h⟩ := h
  exact tw_X6_common_4 n4 a0 a1 M h
abbrev dt_X6_lowest : am_D := (tk_X6_lowest, 6, 4, some .int, tb_hn 171)
def wp_X6_lowest (a0 : Int) (a1 : Int) (a2 : Int) (M : am_M) (Q : Int → am_M → Prop) : Prop := wp_X6_size a0 M (fun x1 M2 => wp_X6_common x1 a1 M2 (fun x3 M4 => (am_rg a2) ∧ (¬ a2 = 0 → (am_rg a1 ∧ am_rg x3 ∧ (0 : Int) < x3) ∧ (Q (Int.tdiv a1 x3) M4)) ∧ (¬ (¬ a2 = 0) → (am_rg a0 ∧ am_rg x3 ∧ (0 : Int) < x3) ∧ (Q (Int.tdiv a0 x3) M4))))
set_option maxRecDepth 20000 in
theorem tm_X6_lowest {a0 a1 a2 : Int} {M : am_M} {Q : Int → am_M → Prop} (h : wp_X6_lowest a0 a1 a2 M Q) : am_CC 2 171 [.inl (a0), .inl (a1), .inl (a2)] M (am_QI Q) (fun _ _ => False) := by
  refine ⟨Nat.le_of_ble_eq_true rfl, ?_⟩
  show am_W (am_CC 1) dt_X6_lowest 1 0 none (am_QI Q) (am_qx 171 (fun _ _ => False)) (0, 0, [(0, .inl (a0)), (1, .inl (a1)), (2, .inl (a2))], [], M)
  refine am_Wrun 1 (ps := []) (pc' := 1) (lv' := [(0, .inl (a0)), (1, .inl (a1)), (2, .inl (a2))]) (st' := [.inl (a0)]) (M' := M) rfl trivial ?_
  refine am_WcallS (y := 133) (n := 1) (f := 4) (co := 0) (as := [.inl (a0)]) (st' := []) rfl rfl rfl rfl rfl rfl rfl rfl rfl (Nat.zero_le _) rfl (am_CC_le (Nat.le_of_ble_eq_true rfl) (tm_X6_size h)) (fun r M2 q => ?_) (fun _ _ q => q.elim)
  obtain ⟨x1, rfl, h⟩ := q
  refine am_Wrun 1 (ps := []) (pc' := 5) (lv' := [(0, .inl (a0)), (1, .inl (a1)), (2, .inl (a2))]) (st' := [.inl (a1), .inl (x1)]) (M' := M2) rfl trivial ?_
  refine am_WcallS (y := 172) (n := 2) (f := 8) (co := 0) (as := [.inl (x1), .inl (a1)]) (st' := []) rfl rfl rfl rfl rfl rfl rfl rfl rfl (Nat.zero_le _) rfl (am_CC_le (Nat.le_of_ble_eq_true rfl) (tm_X6_common h)) (fun r M4 q => ?_) (fun _ _ q => q.elim)
  obtain ⟨x3, rfl, h⟩ := q
  refine am_Wrun 2 (ps := []) (pc' := 10) (lv' := [(3, .inl (x3)), (0, .inl (a0)), (1, .inl (a1)), (2, .inl (a2))]) (st' := [.inl (a2)]) (M' := M4) rfl trivial ?_
  obtain ⟨b0, ht, hf⟩ := h
  refine am_Wbr (P := [am_rg a2]) (c := ¬ a2 = 0) (t := 19) (f := 13) (st' := []) rfl rfl ⟨b0, trivial⟩ rfl (fun q => ?_) (fun q => ?_)
  · have h := ht q
    obtain ⟨c0_0, h⟩ := h
    refine am_Wrun 3 (ps := [am_rg a1 ∧ am_rg x3 ∧ (0 : Int) < x3]) (pc' := 22) (lv' := [(3, .inl (x3)), (0, .inl (a0)), (1, .inl (a1)), (2, .inl (a2))]) (st' := [.inl (Int.tdiv a1 x3)]) (M' := M4) rfl ⟨c0_0, trivial⟩ ?_
    exact am_Wreti rfl rfl h
  · have h := hf q
    obtain ⟨c0_0, h⟩ := h
    refine am_Wrun 4 (ps := [am_rg a0 ∧ am_rg x3 ∧ (0 : Int) < x3]) (pc' := 22) (lv' := [(3, .inl (x3)), (0, .inl (a0)), (1, .inl (a1)), (2, .inl (a2))]) (st' := [.inl (Int.tdiv a0 x3)]) (M' := M4) rfl ⟨c0_0, trivial⟩ ?_
    exact am_Wreti rfl rfl h
abbrev dt_X6_errorOf : am_D := (tk_X6_errorOf, 6, 4, some .int, tb_hn 170)
def wp_X6_errorOf (a0 : Int) (a1 : Int) (M : am_M) (Q : Int → am_M → Prop) : Prop := wp_X6_time a0 M (fun x1 M2 => wp_X6_value a0 M2 (fun x3 M4 => wp_X6_farFrom x1 x3 M4 (fun x5 M6 => (am_rg x5) ∧ (0 ≤ x5 → wp_X6_lowest x5 (M6 69 12) a1 M6 (fun x7 M8 => Q x7 M8)) ∧ (¬ 0 ≤ x5 → Q (-1000000) M6))))
set_option maxRecDepth 20000 in
theorem tm_X6_errorOf {a0 a1 : Int} {M : am_M} {Q : Int → am_M → Prop} (h : wp_X6_errorOf a0 a1 M Q) : am_CC 6 170 [.inr (.inl (some 69)), .inl (a0), .inl (a1)] M (am_QI Q) (fun _ _ => False) := by
  refine ⟨Nat.le_of_ble_eq_true rfl, ?_⟩
  show am_W (am_CC 5) dt_X6_errorOf 5 0 none (am_QI Q) (am_qx 170 (fun _ _ => False)) (0, 0, [(0, .inr (.inl (some 69))), (1, .inl (a0)), (2, .inl (a1))], [], M)
  refine am_Wrun 3 (ps := []) (pc' := 3) (lv' := [(0, .inr (.inl (some 69))), (1, .inl (a0)), (2, .inl (a1))]) (st' := [.inl (a0), .inr (.inl (some 69)), .inr (.inl (some 69))]) (M' := M) rfl trivial ?_
  refine am_WcallV (y := 115) (n := 2) (a := 69) (f := 6) (as := [.inl (a0)]) (st' := [.inr (.inl (some 69))]) rfl rfl rfl rfl rfl rfl rfl rfl rfl rfl (Nat.zero_le _) rfl (am_CC_le (Nat.le_of_ble_eq_true rfl) (tm_X6_time h)) (fun r M2 q => ?_) (fun _ _ q => q.elim)
  obtain ⟨x1, rfl, h⟩ := q
  refine am_Wrun 2 (ps := []) (pc' := 8) (lv' := [(0, .inr (.inl (some 69))), (1, .inl (a0)), (2, .inl (a1))]) (st' := [.inl (a0), .inr (.inl (some 69)), .inl (x1), .inr (.inl (some 69))]) (M' := M2) rfl trivial ?_
  refine am_WcallV (y := 120) (n := 2) (a := 69) (f := 11) (as := [.inl (a0)]) (st' := [.inl (x1), .inr (.inl (some 69))]) rfl rfl rfl rfl rfl rfl rfl rfl rfl rfl (Nat.zero_le _) rfl (am_CC_le (Nat.le_of_ble_eq_true rfl) (tm_X6_value h)) (fun r M4 q => ?_) (fun _ _ q => q.elim)
  obtain ⟨x3, rfl, h⟩ := q
  refine am_WcallV (y := 140) (n := 3) (a := 69) (f := 14) (as := [.inl (x1), .inl (x3)]) (st' := []) rfl rfl rfl rfl rfl rfl rfl rfl rfl rfl (Nat.zero_le _) rfl (am_CC_le (Nat.le_of_ble_eq_true rfl) (tm_X6_farFrom h)) (fun r M6 q => ?_) (fun _ _ q => q.elim)
  obtain ⟨x5, rfl, h⟩ := q
  refine am_Wrun 2 (ps := []) (pc' := 16) (lv' := [(3, .inl (x5)), (0, .inr (.inl (some 69))), (1, .inl (a0)), (2, .inl (a1))]) (st' := [.inl (x5)]) (M' := M6) rfl trivial ?_
  obtain ⟨b0, ht, hf⟩ := h
  refine am_Wbr (P := [am_rg x5]) (c := 0 ≤ x5) (t := 24) (f := 19) (st' := []) rfl rfl ⟨b0, trivial⟩ rfl (fun q => ?_) (fun q => ?_)
  · have h := ht q
    refine am_Wrun 4 (ps := []) (pc' := 30) (lv' := [(3, .inl (x5)), (0, .inr (.inl (some 69))), (1, .inl (a0)), (2, .inl (a1))]) (st' := [.inl (a1), .inl (M6 69 12), .inl (x5)]) (M' := M6) rfl trivial ?_
    refine am_WcallS (y := 171) (n := 3) (f := 33) (co := 0) (as := [.inl (x5), .inl (M6 69 12), .inl (a1)]) (st' := []) rfl rfl rfl rfl rfl rfl rfl rfl rfl (Nat.zero_le _) rfl (am_CC_le (Nat.le_of_ble_eq_true rfl) (tm_X6_lowest h)) (fun r M8 q => ?_) (fun _ _ q => q.elim)
    obtain ⟨x7, rfl, h⟩ := q
    exact am_Wreti rfl rfl h
  · have h := hf q
    refine am_Wrun 2 (ps := []) (pc' := 33) (lv' := [(3, .inl (x5)), (0, .inr (.inl (some 69))), (1, .inl (a0)), (2, .inl (a1))]) (st' := [.inl ((-1000000))]) (M' := M6) rfl trivial ?_
    exact am_Wreti rfl rfl h
abbrev dt_X6_error : am_D := (tk_X6_error, 6, 3, some .int, tb_hn 169)
def wp_X6_error (a0 : Int) (a1 : Int) (M : am_M) (Q : Int → am_M → Prop) : Prop := wp_X6_isPoint a0 (am_up M 69 5 0) (fun x1 M2 => (am_rg x1) ∧ (¬ x1 = 0 → wp_X6_in a1 0 1 M2 (fun x3 M4 => (am_rg x3) ∧ (x3 = 0 → wp_X6_fails 2 M4 (fun x5 M6 => Q x5 M6)) ∧ (¬ x3 = 0 → wp_X6_errorOf a0 a1 M4 (fun x7 M8 => Q x7 M8)))) ∧ (¬ (¬ x1 = 0) → wp_X6_fails 1 M2 (fun x9 M10 => Q x9 M10)))
set_option maxRecDepth 20000 in
theorem tm_X6_error {a0 a1 : Int} {M : am_M} {Q : Int → am_M → Prop} (h : wp_X6_error a0 a1 M Q) : am_CC 7 169 [.inr (.inl (some 69)), .inl (a0), .inl (a1)] M (am_QI Q) (fun _ _ => False) := by
  refine ⟨Nat.le_of_ble_eq_true rfl, ?_⟩
  show am_W (am_CC 6) dt_X6_error 6 0 none (am_QI Q) (am_qx 169 (fun _ _ => False)) (0, 0, [(0, .inr (.inl (some 69))), (1, .inl (a0)), (2, .inl (a1))], [], M)
  refine am_Wrun 5 (ps := []) (pc' := 7) (lv' := [(0, .inr (.inl (some 69))), (1, .inl (a0)), (2, .inl (a1))]) (st' := [.inl (a0), .inr (.inl (some 69))]) (M' := (am_up M 69 5 0)) rfl trivial ?_
  refine am_WcallV (y := 119) (n := 2) (a := 69) (f := 10) (as := [.inl (a0)]) (st' := []) rfl rfl rfl rfl rfl rfl rfl rfl rfl rfl (Nat.zero_le _) rfl (am_CC_le (Nat.le_of_ble_eq_true rfl) (tm_X6_isPoint h)) (fun r M2 q => ?_) (fun _ _ q => q.elim)
  obtain ⟨x1, rfl, h⟩ := q
  obtain ⟨b0, ht, hf⟩ := h
  refine am_Wbr (P := [am_rg x1]) (c := ¬ x1 = 0) (t := 19) (f := 13) (st' := []) rfl rfl ⟨b0, trivial⟩ rfl (fun q => ?_) (fun q => ?_)
  · have h := ht q
    refine am_Wrun 3 (ps := []) (pc' := 22) (lv' := [(0, .inr (.inl (some 69))), (1, .inl (a0)), (2, .inl (a1))]) (st' := [.inl (1), .inl (0), .inl (a1)]) (M' := M2) rfl trivial ?_
    refine am_WcallS (y := 112) (n := 3) (f := 25) (co := 0) (as := [.inl (a1), .inl (0), .inl (1)]) (st' := []) rfl rfl rfl rfl rfl rfl rfl rfl rfl (Nat.zero_le _) rfl (am_CC_le (Nat.le_of_ble_eq_true rfl) (tm_X6_in h)) (fun r M4 q => ?_) (fun _ _ q => q.elim)
    obtain ⟨x3, rfl, h⟩ := q
    obtain ⟨b0, ht, hf⟩ := h
    refine am_Wbr (P := [am_rg x3]) (c := x3 = 0) (t := 37) (f := 28) (st' := []) rfl rfl ⟨b0, trivial⟩ rfl (fun q => ?_) (fun q => ?_)
    · have h := ht q
      refine am_Wrun 2 (ps := []) (pc' := 39) (lv' := [(0, .inr (.inl (some 69))), (1, .inl (a0)), (2, .inl (a1))]) (st' := [.inl (2), .inr (.inl (some 69))]) (M' := M4) rfl trivial ?_
      refine am_WcallV (y := 113) (n := 2) (a := 69) (f := 42) (as := [.inl (2)]) (st' := []) rfl rfl rfl rfl rfl rfl rfl rfl rfl rfl (Nat.zero_le _) rfl (am_CC_le (Nat.le_of_ble_eq_true rfl) (tm_X6_fails h)) (fun r M6 q => ?_) (fun _ _ q => q.elim)
      obtain ⟨x5, rfl, h⟩ := q
      exact am_Wreti rfl rfl h
    · have h := hf q
      refine am_Wrun 3 (ps := []) (pc' := 31) (lv' := [(0, .inr (.inl (some 69))), (1, .inl (a0)), (2, .inl (a1))]) (st' := [.inl (a1), .inl (a0), .inr (.inl (some 69))]) (M' := M4) rfl trivial ?_
      refine am_WcallV (y := 170) (n := 3) (a := 69) (f := 34) (as := [.inl (a0), .inl (a1)]) (st' := []) rfl rfl rfl rfl rfl rfl rfl rfl rfl rfl (Nat.zero_le _) rfl (am_CC_le (Nat.le_of_ble_eq_true rfl) (tm_X6_errorOf h)) (fun r M8 q => ?_) (fun _ _ q => q.elim)
      obtain ⟨x7, rfl, h⟩ := q
      refine am_Wrun 1 (ps := []) (pc' := 42) (lv' := [(0, .inr (.inl (some 69))), (1, .inl (a0)), (2, .inl (a1))]) (st' := [.inl (x7)]) (M' := M8) rfl trivial ?_
      exact am_Wreti rfl rfl h
  · have h := hf q
    refine am_Wrun 2 (ps := []) (pc' := 15) (lv' := [(0, .inr (.inl (some 69))), (1, .inl (a0)), (2, .inl (a1))]) (st' := [.inl (1), .inr (.inl (some 69))]) (M' := M2) rfl trivial ?_
    refine am_WcallV (y := 113) (n := 2) (a := 69) (f := 18) (as := [.inl (1)]) (st' := []) rfl rfl rfl rfl rfl rfl rfl rfl rfl rfl (Nat.zero_le _) rfl (am_CC_le (Nat.le_of_ble_eq_true rfl) (tm_X6_fails h)) (fun r M10 q => ?_) (fun _ _ q => q.elim)
    obtain ⟨x9, rfl, h⟩ := q
    exact am_Wreti rfl rfl h
abbrev dt_X5_reading : am_D := (tk_X5_reading, 5, 3, some .int, tb_hn 104)
def wp_X5_reading (a0 : Int) (a1 : Int) (M : am_M) (Q : Int → am_M → Prop) (X : am_X) : Prop := wp_X5_isTime a0 M (fun x1 M2 => (am_rg x1) ∧ (¬ x1 = 0 → wp_X5_refuseOutside a1 1 M2 (fun M3 => wp_X1_findReading a0 M3 (fun x4 M5 => (am_rg x4) ∧ (¬ x4 = 0 → (am_rg a1) ∧ (¬ a1 = 0 → Q (M5 9 2) M5) ∧ (¬ (¬ a1 = 0) → Q (M5 9 1) M5)) ∧ (¬ (¬ x4 = 0) → Q (-1000000) M5))) X) ∧ (¬ (¬ x1 = 0) → X 0 M2))
set_option maxRecDepth 20000 in
theorem tm_X5_reading {a0 a1 : Int} {M : am_M} {Q : Int → am_M → Prop} {X : am_X} (h : wp_X5_reading a0 a1 M Q X) : am_CC 7 104 [.inr (.inl (some 0)), .inl (a0), .inl (a1)] M (am_QI Q) X := by
  refine ⟨Nat.le_of_ble_eq_true rfl, ?_⟩
  show am_W (am_CC 6) dt_X5_reading 6 0 none (am_QI Q) (am_qx 104 X) (0, 0, [(0, .inr (.inl (some 0))), (1, .inl (a0)), (2, .inl (a1))], [], M)
  have hX : ∀ E M, X E M → am_qx 104 X E M := fun E M q => ⟨⟨rfl, by decide⟩, q⟩
  refine am_Wrun 1 (ps := []) (pc' := 1) (lv' := [(0, .inr (.inl (some 0))), (1, .inl (a0)), (2, .inl (a1))]) (st' := [.inl (a0)]) (M' := M) rfl trivial ?_
  refine am_WcallS (y := 77) (n := 1) (f := 4) (co := 0) (as := [.inl (a0)]) (st' := []) rfl rfl rfl rfl rfl rfl rfl rfl rfl (Nat.zero_le _) rfl (am_CC_le (Nat.le_of_ble_eq_true rfl) (tm_X5_isTime h)) (fun r M2 q => ?_) (fun _ _ q => q.elim)
  obtain ⟨x1, rfl, h⟩ := q
  obtain ⟨b0, ht, hf⟩ := h
  refine am_Wbr (P := [am_rg x1]) (c := ¬ x1 = 0) (t := 17) (f := 7) (st' := []) rfl rfl ⟨b0, trivial⟩ rfl (fun q => ?_) (fun q => ?_)
  · have h := ht q
    refine am_Wrun 2 (ps := []) (pc' := 19) (lv' := [(0, .inr (.inl (some 0))), (1, .inl (a0)), (2, .inl (a1))]) (st' := [.inl (1), .inl (a1)]) (M' := M2) rfl trivial ?_
    refine am_WcallS (y := 34) (n := 2) (f := 22) (co := 0) (as := [.inl (a1), .inl (1)]) (st' := []) rfl rfl rfl rfl rfl rfl rfl rfl rfl (Nat.zero_le _) rfl (am_CC_le (Nat.le_of_ble_eq_true rfl) (tm_X5_refuseOutside h)) (fun r M3 q => ?_) (fun E M q => hX _ _ q)
    obtain ⟨rfl, h⟩ := q
    refine am_Wrun 3 (ps := []) (pc' := 27) (lv' := [(0, .inr (.inl (some 0))), (1, .inl (a0)), (2, .inl (a1))]) (st' := [.inl (a0), .inr (.inl (some 9))]) (M' := M3) rfl trivial ?_
    refine am_WcallV (y := 19) (n := 2) (a := 9) (f := 30) (as := [.inl (a0)]) (st' := []) rfl rfl rfl rfl rfl rfl rfl rfl rfl rfl (Nat.zero_le _) rfl (am_CC_le (Nat.le_of_ble_eq_true rfl) (tm_X1_findReading h)) (fun r M5 q => ?_) (fun _ _ q => q.elim)
    obtain ⟨x4, rfl, h⟩ := q
    obtain ⟨b0, ht, hf⟩ := h
    refine am_Wbr (P := [am_rg x4]) (c := ¬ x4 = 0) (t := 36) (f := 33) (st' := []) rfl rfl ⟨b0, trivial⟩ rfl (fun q => ?_) (fun q => ?_)
    · have h := ht q
      refine am_Wrun 1 (ps := []) (pc' := 37) (lv' := [(0, .inr (.inl (some 0))), (1, .inl (a0)), (2, .inl (a1))]) (st' := [.inl (a1)]) (M' := M5) rfl trivial ?_
      obtain ⟨b0, ht, hf⟩ := h
      refine am_Wbr (P := [am_rg a1]) (c := ¬ a1 = 0) (t := 50) (f := 40) (st' := []) rfl rfl ⟨b0, trivial⟩ rfl (fun q => ?_) (fun q => ?_)
      · have h := ht q
        refine am_Wrun 3 (ps := []) (pc' := 57) (lv' := [(0, .inr (.inl (some 0))), (1, .inl (a0)), (2, .inl (a1))]) (st' := [.inl (M5 9 2)]) (M' := M5) rfl trivial ?_
        exact am_Wreti rfl rfl h
      · have h := hf q
        refine am_Wrun 4 (ps := []) (pc' := 57) (lv' := [(0, .inr (.inl (some 0))), (1, .inl (a0)), (2, .inl (a1))]) (st' := [.inl (M5 9 1)]) (M' := M5) rfl trivial ?_
        exact am_Wreti rfl rfl h
    · have h := hf q
      refine am_Wrun 1 (ps := []) (pc' := 35) (lv' := [(0, .inr (.inl (some 0))), (1, .inl (a0)), (2, .inl (a1))]) (st' := [.inl ((-1000000))]) (M' := M5) rfl trivial ?_
      exact am_Wreti rfl rfl h
  · have h := hf q
    exact am_Wthr (is := 238) (ic := 63) (E := 0) rfl (Nat.le_of_ble_eq_true rfl) rfl rfl rfl rfl (Or.inl ⟨rfl, rfl, rfl⟩) (hX _ _ h)
abbrev dt_L_reading : am_D := (tk_L_reading, 9, 5, some .int, tb_hn 212)
def wp_L_reading (a1 : Int) (a2 : Int) (M : am_M) (Q : Int → am_M → Prop) : Prop := wp_X5_reading a1 a2 M (fun x1 M2 => (am_rg x1) ∧ (Q 0 (am_up M2 80 0 x1))) (fun E M3 => (E = 0 ∧ Q 1 M3))
set_option maxRecDepth 20000 in
theorem tm_L_reading {a1 a2 : Int} {M : am_M} {Q : Int → am_M → Prop} (h : wp_L_reading a1 a2 M Q) : am_CC 8 212 [.inr (.inl (some 0)), .inl (a1), .inl (a2), .inr (.inl (some 80))] M (am_QI Q) (fun _ _ => False) := by
  refine ⟨Nat.le_of_ble_eq_true rfl, ?_⟩
  show am_W (am_CC 7) dt_L_reading 7 1 none (am_QI Q) (am_qx 212 (fun _ _ => False)) (0, 0, [(0, .inr (.inl (some 0))), (1, .inl (a1)), (2, .inl (a2)), (3, .inr (.inl (some 80)))], [], M)
  refine am_Wrun 5 (ps := []) (pc' := 5) (lv' := [(0, .inr (.inl (some 0))), (1, .inl (a1)), (2, .inl (a2)), (3, .inr (.inl (some 80)))]) (st' := [.inl (a2), .inl (a1), .inr (.inl (some 0)), .inl (0), .inr (.inl (some 80))]) (M' := M) rfl trivial ?_
  refine am_WcallV (y := 104) (n := 3) (a := 0) (f := 8) (as := [.inl (a1), .inl (a2)]) (st' := [.inl (0), .inr (.inl (some 80))]) rfl rfl rfl rfl rfl rfl rfl rfl rfl rfl (Nat.zero_le _) rfl (am_CC_le (Nat.le_of_ble_eq_true rfl) (tm_X5_reading h)) (fun r M2 q => ?_) (fun E M3 q => ?_)
  · obtain ⟨x1, rfl, h⟩ := q
    obtain ⟨c0_0, h⟩ := h
    refine am_Wrun 4 (ps := [am_rg x1, 0 ≤ (0 : Int) ∧ (0 : Int) < 1]) (pc' := 18) (lv' := [(0, .inr (.inl (some 0))), (1, .inl (a1)), (2, .inl (a2)), (3, .inr (.inl (some 80)))]) (st' := [.inl (0)]) (M' := (am_up M2 80 0 x1)) rfl ⟨c0_0, ⟨by decide, by decide⟩, trivial⟩ ?_
    exact am_Wreti rfl rfl h
  · rcases q with ⟨rfl, h⟩
    · show 0 + 1 ≤ 1 ∧ am_W (am_CC 7) dt_L_reading 7 1 none (am_QI Q) _ (0 + 1, 15, [(0, .inr (.inl (some 0))), (1, .inl (a1)), (2, .inl (a2)), (3, .inr (.inl (some 80)))], [], M3)
      refine ⟨Nat.le_refl _, ?_⟩
      refine am_Wrun 1 (ps := []) (pc' := 16) (lv' := [(0, .inr (.inl (some 0))), (1, .inl (a1)), (2, .inl (a2)), (3, .inr (.inl (some 80)))]) (st' := [.inl (1)]) (M' := M3) rfl trivial ?_
      exact am_Wreti rfl rfl h
abbrev dt_X6_reading : am_D := (tk_X6_reading, 6, 3, some .int, tb_hn 173)
def wj_X6_reading_25 (Q : Int → am_M → Prop) (M : am_M) : Prop := wp_X6_fails 1 M (fun x3 M4 => Q x3 M4)
def wp_X6_reading (a0 : Int) (a1 : Int) (M : am_M) (Q : Int → am_M → Prop) : Prop := wp_X6_in a0 0 9999 (am_up M 69 5 0) (fun x1 M2 => (am_rg x1) ∧ (x1 = 0 → wj_X6_reading_25 Q  M2) ∧ (¬ x1 = 0 → wp_X6_in a1 0 1 M2 (fun x5 M6 => (am_rg x5) ∧ (¬ x5 = 0 → wp_X6_read a0 M6 (fun M7 => (am_rg (M7 69 12)) ∧ (¬ (M7 69 12) = 0 → wp_X6_lowest (M7 69 11) (M7 69 12) a1 M7 (fun x8 M9 => Q x8 M9)) ∧ (¬ (¬ (M7 69 12) = 0) → Q (-1000000) M7))) ∧ (¬ (¬ x5 = 0) → wj_X6_reading_25 Q  M6))))
set_option maxRecDepth 20000 in
theorem tj_X6_reading_25 {Q : Int → am_M → Prop} {QX : am_X} (M : am_M) (h : wj_X6_reading_25 Q M) : am_W (am_CC 4) dt_X6_reading 4 0 none (am_QI Q) QX (0, 25, [(0, .inr (.inl (some 69)))], [], M) := by
  refine am_Wrun 2 (ps := []) (pc' := 27) (lv' := [(0, .inr (.inl (some 69)))]) (st' := [.inl (1), .inr (.inl (some 69))]) (M' := M) rfl trivial ?_
  refine am_WcallV (y := 113) (n := 2) (a := 69) (f := 30) (as := [.inl (1)]) (st' := []) rfl rfl rfl rfl rfl rfl rfl rfl rfl rfl (Nat.zero_le _) rfl (am_CC_le (Nat.le_of_ble_eq_true rfl) (tm_X6_fails h)) (fun r M4 q => ?_) (fun _ _ q => q.elim)
  obtain ⟨x3, rfl, h⟩ := q
  exact am_Wreti rfl rfl h
set_option maxRecDepth 20000 in
theorem tm_X6_reading {a0 a1 : Int} {M : am_M} {Q : Int → am_M → Prop} (h : wp_X6_reading a0 a1 M Q) : am_CC 5 173 [.inr (.inl (some 69)), .inl (a0), .inl (a1)] M (am_QI Q) (fun _ _ => False) := by
  refine ⟨Nat.le_of_ble_eq_true rfl, ?_⟩
  show am_W (am_CC 4) dt_X6_reading 4 0 none (am_QI Q) (am_qx 173 (fun _ _ => False)) (0, 0, [(0, .inr (.inl (some 69))), (1, .inl (a0)), (2, .inl (a1))], [], M)
  refine am_Wrun 6 (ps := [-32768 ≤ (9999 : Int) ∧ (9999 : Int) ≤ 32767]) (pc' := 10) (lv' := [(0, .inr (.inl (some 69))), (1, .inl (a0)), (2, .inl (a1))]) (st' := [.inl (9999), .inl (0), .inl (a0)]) (M' := (am_up M 69 5 0)) rfl ⟨⟨by decide, by decide⟩, trivial⟩ ?_
  refine am_WcallS (y := 112) (n := 3) (f := 13) (co := 0) (as := [.inl (a0), .inl (0), .inl (9999)]) (st' := []) rfl rfl rfl rfl rfl rfl rfl rfl rfl (Nat.zero_le _) rfl (am_CC_le (Nat.le_of_ble_eq_true rfl) (tm_X6_in h)) (fun r M2 q => ?_) (fun _ _ q => q.elim)
  obtain ⟨x1, rfl, h⟩ := q
  obtain ⟨b0, ht, hf⟩ := h
  refine am_Wbr (P := [am_rg x1]) (c := x1 = 0) (t := 25) (f := 16) (st' := []) rfl rfl ⟨b0, trivial⟩ rfl (fun q => ?_) (fun q => ?_)
  · have h := ht q
    refine am_W_sub [0] rfl ?_
    exact tj_X6_reading_25  M2 h
  · have h := hf q
    refine am_Wrun 3 (ps := []) (pc' := 19) (lv' := [(0, .inr (.inl (some 69))), (1, .inl (a0)), (2, .inl (a1))]) (st' := [.inl (1), .inl (0), .inl (a1)]) (M' := M2) rfl trivial ?_
    refine am_WcallS (y := 112) (n := 3) (f := 22) (co := 0) (as := [.inl (a1), .inl (0), .inl (1)]) (st' := []) rfl rfl rfl rfl rfl rfl rfl rfl rfl (Nat.zero_le _) rfl (am_CC_le (Nat.le_of_ble_eq_true rfl) (tm_X6_in h)) (fun r M6 q => ?_) (fun _ _ q => q.elim)
    obtain ⟨x5, rfl, h⟩ := q
    obtain ⟨b0, ht, hf⟩ := h
    refine am_Wbr (P := [am_rg x5]) (c := ¬ x5 = 0) (t := 31) (f := 25) (st' := []) rfl rfl ⟨b0, trivial⟩ rfl (fun q => ?_) (fun q => ?_)
    · have h := ht q
      refine am_Wrun 2 (ps := []) (pc' := 33) (lv' := [(0, .inr (.inl (some 69))), (1, .inl (a0)), (2, .inl (a1))]) (st' := [.inl (a0), .inr (.inl (some 69))]) (M' := M6) rfl trivial ?_
      refine am_WcallV (y := 141) (n := 2) (a := 69) (f := 36) (as := [.inl (a0)]) (st' := []) rfl rfl rfl rfl rfl rfl rfl rfl rfl rfl (Nat.zero_le _) rfl (am_CC_le (Nat.le_of_ble_eq_true rfl) (tm_X6_read h)) (fun r M7 q => ?_) (fun _ _ q => q.elim)
      obtain ⟨rfl, h⟩ := q
      refine am_Wrun 2 (ps := []) (pc' := 40) (lv' := [(0, .inr (.inl (some 69))), (1, .inl (a0)), (2, .inl (a1))]) (st' := [.inl (M7 69 12)]) (M' := M7) rfl trivial ?_
      obtain ⟨b0, ht, hf⟩ := h
      refine am_Wbr (P := [am_rg (M7 69 12)]) (c := ¬ (M7 69 12) = 0) (t := 48) (f := 43) (st' := []) rfl rfl ⟨b0, trivial⟩ rfl (fun q => ?_) (fun q => ?_)
      · have h := ht q
        refine am_Wrun 5 (ps := []) (pc' := 57) (lv' := [(0, .inr (.inl (some 69))), (1, .inl (a0)), (2, .inl (a1))]) (st' := [.inl (a1), .inl (M7 69 12), .inl (M7 69 11)]) (M' := M7) rfl trivial ?_
        refine am_WcallS (y := 171) (n := 3) (f := 60) (co := 0) (as := [.inl (M7 69 11), .inl (M7 69 12), .inl (a1)]) (st' := []) rfl rfl rfl rfl rfl rfl rfl rfl rfl (Nat.zero_le _) rfl (am_CC_le (Nat.le_of_ble_eq_true rfl) (tm_X6_lowest h)) (fun r M9 q => ?_) (fun _ _ q => q.elim)
        obtain ⟨x8, rfl, h⟩ := q
        exact am_Wreti rfl rfl h
      · have h := hf q
        refine am_Wrun 2 (ps := []) (pc' := 60) (lv' := [(0, .inr (.inl (some 69))), (1, .inl (a0)), (2, .inl (a1))]) (st' := [.inl ((-1000000))]) (M' := M7) rfl trivial ?_
        exact am_Wreti rfl rfl h
    · have h := hf q
      refine am_W_sub [0] rfl ?_
      exact tj_X6_reading_25  M6 h
abbrev dt_X4_fewestOf : am_D := (tk_X4_fewestOf, 4, 3, some .int, tb_hn 55)
def wp_X4_fewestOf (a0 : Int) (M : am_M) (Q : Int → am_M → Prop) : Prop := wp_X4_findNeeds M (fun M1 => wp_X4_findFewest (M1 6 0) M1 (fun x2 M3 => wp_X2_firstOf a0 M3 (fun x4 M5 => wp_X2_hasPoint x4 M5 (fun x6 M7 => (am_rg x6) ∧ (x6 = 0 → Q 0 M7) ∧ (¬ x6 = 0 → (0 ≤ (x4 : Int) ∧ (x4 : Int) < 60) ∧ (Q (M7 12 x4) M7))))))
set_option maxRecDepth 20000 in
theorem tm_X4_fewestOf {a0 : Int} {M : am_M} {Q : Int → am_M → Prop} (h : wp_X4_fewestOf a0 M Q) : am_CC 4 55 [.inr (.inl (some 10)), .inl (a0)] M (am_QI Q) (fun _ _ => False) := by
  refine ⟨Nat.le_of_ble_eq_true rfl, ?_⟩
  show am_W (am_CC 3) dt_X4_fewestOf 3 0 none (am_QI Q) (am_qx 55 (fun _ _ => False)) (0, 0, [(0, .inr (.inl (some 10))), (1, .inl (a0))], [], M)
  refine am_Wrun 1 (ps := []) (pc' := 1) (lv' := [(0, .inr (.inl (some 10))), (1, .inl (a0))]) (st' := [.inr (.inl (some 10))]) (M' := M) rfl trivial ?_
  refine am_WcallV (y := 56) (n := 1) (a := 10) (f := 4) (as := []) (st' := []) rfl rfl rfl rfl rfl rfl rfl rfl rfl rfl (Nat.zero_le _) rfl (am_CC_le (Nat.le_of_ble_eq_true rfl) (tm_X4_findNeeds h)) (fun r M1 q => ?_) (fun _ _ q => q.elim)
  obtain ⟨rfl, h⟩ := q
  refine am_Wrun 6 (ps := [0 ≤ (0 : Int) ∧ (0 : Int) < 3]) (pc' := 14) (lv' := [(0, .inr (.inl (some 10))), (1, .inl (a0))]) (st' := [.inl (M1 6 0), .inr (.inl (some 10))]) (M' := M1) rfl ⟨⟨by decide, by decide⟩, trivial⟩ ?_
  refine am_WcallV (y := 58) (n := 2) (a := 10) (f := 17) (as := [.inl (M1 6 0)]) (st' := []) rfl rfl rfl rfl rfl rfl rfl rfl rfl rfl (Nat.zero_le _) rfl (am_CC_le (Nat.le_of_ble_eq_true rfl) (tm_X4_findFewest h)) (fun r M3 q => ?_) (fun _ _ q => q.elim)
  obtain ⟨x2, rfl, h⟩ := q
  refine am_Wrun 4 (ps := []) (pc' := 23) (lv' := [(0, .inr (.inl (some 10))), (1, .inl (a0))]) (st' := [.inl (a0), .inr (.inl (some 1))]) (M' := M3) rfl trivial ?_
  refine am_WcallV (y := 52) (n := 2) (a := 1) (f := 26) (as := [.inl (a0)]) (st' := []) rfl rfl rfl rfl rfl rfl rfl rfl rfl rfl (Nat.zero_le _) rfl (am_CC_le (Nat.le_of_ble_eq_true rfl) (tm_X2_firstOf h)) (fun r M5 q => ?_) (fun _ _ q => q.elim)
  obtain ⟨x4, rfl, h⟩ := q
  refine am_Wrun 4 (ps := []) (pc' := 32) (lv' := [(2, .inl (x4)), (0, .inr (.inl (some 10))), (1, .inl (a0))]) (st' := [.inl (x4), .inr (.inl (some 1))]) (M' := M5) rfl trivial ?_
  refine am_WcallV (y := 9) (n := 2) (a := 1) (f := 35) (as := [.inl (x4)]) (st' := []) rfl rfl rfl rfl rfl rfl rfl rfl rfl rfl (Nat.zero_le _) rfl (am_CC_le (Nat.le_of_ble_eq_true rfl) (tm_X2_hasPoint h)) (fun r M7 q => ?_) (fun _ _ q => q.elim)
  obtain ⟨x6, rfl, h⟩ := q
  obtain ⟨b0, ht, hf⟩ := h
  refine am_Wbr (P := [am_rg x6]) (c := x6 = 0) (t := 47) (f := 38) (st' := []) rfl rfl ⟨b0, trivial⟩ rfl (fun q => ?_) (fun q => ?_)
  · have h := ht q
    refine am_Wrun 1 (ps := []) (pc' := 48) (lv' := [(2, .inl (x4)), (0, .inr (.inl (some 10))), (1, .inl (a0))]) (st' := [.inl (0)]) (M' := M7) rfl trivial ?_
    exact am_Wreti rfl rfl h
  · have h := hf q
    obtain ⟨c0_0, h⟩ := h
    refine am_Wrun 5 (ps := [0 ≤ (x4 : Int) ∧ (x4 : Int) < 60]) (pc' := 48) (lv' := [(2, .inl (x4)), (0, .inr (.inl (some 10))), (1, .inl (a0))]) (st' := [.inl (M7 12 x4)]) (M' := M7) rfl ⟨c0_0, trivial⟩ ?_
    exact am_Wreti rfl rfl h
abbrev dt_X2_keptOf : am_D := (tk_X2_keptOf, 2, 4, some .int, tb_hn 54)
def wl_X2_keptOf_4 (Q : Int → am_M → Prop) : Nat → Int → Int → Int → am_M → Prop
  | 0, _, _, _, _ => False
  | n + 1, v1, v2, v3, M => (am_rg v3) ∧ (am_rg (M 1 7)) ∧ ((M 1 7) ≤ v3 → Q v2 M) ∧ (¬ (M 1 7) ≤ v3 → (0 ≤ (v3 : Int) ∧ (v3 : Int) < 60) ∧ ((am_rg (M 5 v3)) ∧ (am_rg v1) ∧ (¬ (M 5 v3) = v1 → wl_X2_keptOf_4 Q n v1 v2 (v3 + 1) M) ∧ (¬ (¬ (M 5 v3) = v1) → (0 ≤ (v3 : Int) ∧ (v3 : Int) < 60) ∧ ((am_rg (M 4 v3)) ∧ (¬ (M 4 v3) = 1 → wl_X2_keptOf_4 Q n v1 v2 (v3 + 1) M) ∧ (¬ (¬ (M 4 v3) = 1) → wl_X2_keptOf_4 Q n v1 (v2 + 1) (v3 + 1) M)))))
def wp_X2_keptOf (a0 : Int) (M : am_M) (Q : Int → am_M → Prop) : Prop := ∃ e4, wl_X2_keptOf_4 Q e4 a0 0 0 M
set_option maxRecDepth 20000 in
theorem tw_X2_keptOf_4 {Q : Int → am_M → Prop} {QX : am_X} : ∀ (n : Nat) (v1 : Int) (v2 : Int) (v3 : Int) (M : am_M), wl_X2_keptOf_4 Q n v1 v2 v3 M → am_W (am_CC 0) dt_X2_keptOf 0 0 none (am_QI Q) QX (0, 4, [(0, .inr (.inl (some 1))), (1, .inl (v1)), (2, .inl (v2)), (3, .inl (v3))], [], M)
  | 0, _, _, _, _, h => h.elim
  | n + 1, v1, v2, v3, M, h => by
    refine am_Wrun 3 (ps := []) (pc' := 9) (lv' := [(0, .inr (.inl (some 1))), (1, .inl (v1)), (2, .inl (v2)), (3, .inl (v3))]) (st' := [.inl (M 1 7), .inl (v3)]) (M' := M) rfl trivial ?_
    obtain ⟨b0, b1, ht, hf⟩ := h
    refine am_Wbr (P := [am_rg v3, am_rg (M 1 7)]) (c := (M 1 7) ≤ v3) (t := 41) (f := 12) (st' := []) rfl rfl ⟨b0, b1, trivial⟩ rfl (fun q => ?_) (fun q => ?_)
    · have h := ht q
      refine am_Wrun 1 (ps := []) (pc' := 42) (lv' := [(0, .inr (.inl (some 1))), (1, .inl (v1)), (2, .inl (v2)), (3, .inl (v3))]) (st' := [.inl (v2)]) (M' := M) rfl trivial ?_
      exact am_Wreti rfl rfl h
    · have h := hf q
      obtain ⟨c0_0, h⟩ := h
      refine am_Wrun 5 (ps := [0 ≤ (v3 : Int) ∧ (v3 : Int) < 60]) (pc' := 19) (lv' := [(0, .inr (.inl (some 1))), (1, .inl (v1)), (2, .inl (v2)), (3, .inl (v3))]) (st' := [.inl (v1), .inl (M 5 v3)]) (M' := M) rfl ⟨c0_0, trivial⟩ ?_
      obtain ⟨b0, b1, ht, hf⟩ := h
      refine am_Wbr (P := [am_rg (M 5 v3), am_rg v1]) (c := ¬ (M 5 v3) = v1) (t := 35) (f := 22) (st' := []) rfl rfl ⟨b0, b1, trivial⟩ rfl (fun q => ?_) (fun q => ?_)
      · have h := ht q
        refine am_Wrun 2 (ps := []) (pc' := 4) (lv' := [(3, .inl (v3 + 1)), (0, .inr (.inl (some 1))), (1, .inl (v1)), (2, .inl (v2))]) (st' := []) (M' := M) rfl trivial ?_
        refine am_W_sub [1, 2, 3, 0] rfl ?_
        exact tw_X2_keptOf_4 n v1 v2 (v3 + 1) M h
      · have h := hf q
        obtain ⟨c0_0, h⟩ := h
        refine am_Wrun 5 (ps := [0 ≤ (v3 : Int) ∧ (v3 : Int) < 60]) (pc' := 29) (lv' := [(0, .inr (.inl (some 1))), (1, .inl (v1)), (2, .inl (v2)), (3, .inl (v3))]) (st' := [.inl (1), .inl (M 4 v3)]) (M' := M) rfl ⟨c0_0, trivial⟩ ?_
        obtain ⟨b0, ht, hf⟩ := h
        refine am_Wbr (P := [am_rg (M 4 v3), am_rg 1]) (c := ¬ (M 4 v3) = 1) (t := 35) (f := 32) (st' := []) rfl rfl ⟨b0, (am_rgd rfl), trivial⟩ rfl (fun q => ?_) (fun q => ?_)
        · have h := ht q
          refine am_Wrun 2 (ps := []) (pc' := 4) (lv' := [(3, .inl (v3 + 1)), (0, .inr (.inl (some 1))), (1, .inl (v1)), (2, .inl (v2))]) (st' := []) (M' := M) rfl trivial ?_
          refine am_W_sub [1, 2, 3, 0] rfl ?_
          exact tw_X2_keptOf_4 n v1 v2 (v3 + 1) M h
        · have h := hf q
          refine am_Wrun 3 (ps := []) (pc' := 4) (lv' := [(3, .inl (v3 + 1)), (2, .inl (v2 + 1)), (0, .inr (.inl (some 1))), (1, .inl (v1))]) (st' := []) (M' := M) rfl trivial ?_
          refine am_W_sub [2, 3, 1, 0] rfl ?_
          exact tw_X2_keptOf_4 n v1 (v2 + 1) (v3 + 1) M h
set_option maxRecDepth 20000 in
theorem tm_X2_keptOf {a0 : Int} {M : am_M} {Q : Int → am_M → Prop} (h : wp_X2_keptOf a0 M Q) : am_CC 1 54 [.inr (.inl (some 1)), .inl (a0)] M (am_QI Q) (fun _ _ => False) := by
  refine ⟨Nat.le_of_ble_eq_true rfl, ?_⟩
  show am_W (am_CC 0) dt_X2_keptOf 0 0 none (am_QI Q) (am_qx 54 (fun _ _ => False)) (0, 0, [(0, .inr (.inl (some 1))), (1, .inl (a0))], [], M)
  refine am_Wrun 4 (ps := []) (pc' := 4) (lv' := [(3, .inl (0)), (2, .inl (0)), (0, .inr (.inl (some 1))), (1, .inl (a0))]) (st' := []) (M' := M) rfl trivial ?_
  refine am_W_sub [2, 3, 1, 0] rfl ?_
  obtain ⟨n4, h⟩ := h
  exact tw_X2_keptOf_4 n4 a0 0 0 M h
abbrev dt_X5_brokenAmong : am_D := (tk_X5_brokenAmong, 5, 5, some .int, tb_hn 35)
def wl_X5_brokenAmong_5 (Q : Int → am_M → Prop) : Nat → Int → Int → Int → Int → am_M → Prop
  | 0, _, _, _, _, _ => False
  | n + 1, v1, v2, v3, v4, M => (am_rg v4) ∧ (am_rg v2) ∧ (v2 ≤ v4 → Q v3 M) ∧ (¬ v2 ≤ v4 → wp_X1_isBroken (v1 + v4) M (fun x1 M2 => (am_rg x1) ∧ (x1 = 0 → wl_X5_brokenAmong_5 Q n v1 v2 v3 (v4 + 1) M2) ∧ (¬ x1 = 0 → wl_X5_brokenAmong_5 Q n v1 v2 (v3 + 1) (v4 + 1) M2)))
def wp_X5_brokenAmong (a0 : Int) (a1 : Int) (M : am_M) (Q : Int → am_M → Prop) : Prop := ∃ e5, wl_X5_brokenAmong_5 Q e5 a0 a1 0 0 M
set_option maxRecDepth 20000 in
theorem tw_X5_brokenAmong_5 {Q : Int → am_M → Prop} {QX : am_X} : ∀ (n : Nat) (v1 : Int) (v2 : Int) (v3 : Int) (v4 : Int) (M : am_M), wl_X5_brokenAmong_5 Q n v1 v2 v3 v4 M → am_W (am_CC 3) dt_X5_brokenAmong 3 0 none (am_QI Q) QX (0, 5, [(0, .inr (.inl (some 0))), (1, .inl (v1)), (2, .inl (v2)), (3, .inl (v3)), (4, .inl (v4))], [], M)
  | 0, _, _, _, _, _, h => h.elim
  | n + 1, v1, v2, v3, v4, M, h => by
    refine am_Wrun 2 (ps := []) (pc' := 8) (lv' := [(0, .inr (.inl (some 0))), (1, .inl (v1)), (2, .inl (v2)), (3, .inl (v3)), (4, .inl (v4))]) (st' := [.inl (v2), .inl (v4)]) (M' := M) rfl trivial ?_
    obtain ⟨b0, b1, ht, hf⟩ := h
    refine am_Wbr (P := [am_rg v4, am_rg v2]) (c := v2 ≤ v4) (t := 34) (f := 11) (st' := []) rfl rfl ⟨b0, b1, trivial⟩ rfl (fun q => ?_) (fun q => ?_)
    · have h := ht q
      refine am_Wrun 1 (ps := []) (pc' := 35) (lv' := [(0, .inr (.inl (some 0))), (1, .inl (v1)), (2, .inl (v2)), (3, .inl (v3)), (4, .inl (v4))]) (st' := [.inl (v3)]) (M' := M) rfl trivial ?_
      exact am_Wreti rfl rfl h
    · have h := hf q
      refine am_Wrun 5 (ps := []) (pc' := 19) (lv' := [(0, .inr (.inl (some 0))), (1, .inl (v1)), (2, .inl (v2)), (3, .inl (v3)), (4, .inl (v4))]) (st' := [.inl (v1 + v4), .inr (.inl (some 9))]) (M' := M) rfl trivial ?_
      refine am_WcallV (y := 7) (n := 2) (a := 9) (f := 22) (as := [.inl (v1 + v4)]) (st' := []) rfl rfl rfl rfl rfl rfl rfl rfl rfl rfl (Nat.zero_le _) rfl (am_CC_le (Nat.le_of_ble_eq_true rfl) (tm_X1_isBroken h)) (fun r M2 q => ?_) (fun _ _ q => q.elim)
      obtain ⟨x1, rfl, h⟩ := q
      obtain ⟨b0, ht, hf⟩ := h
      refine am_Wbr (P := [am_rg x1]) (c := x1 = 0) (t := 28) (f := 25) (st' := []) rfl rfl ⟨b0, trivial⟩ rfl (fun q => ?_) (fun q => ?_)
      · have h := ht q
        refine am_Wrun 2 (ps := []) (pc' := 5) (lv' := [(4, .inl (v4 + 1)), (0, .inr (.inl (some 0))), (1, .inl (v1)), (2, .inl (v2)), (3, .inl (v3))]) (st' := []) (M' := M2) rfl trivial ?_
        refine am_W_sub [1, 2, 3, 4, 0] rfl ?_
        exact tw_X5_brokenAmong_5 n v1 v2 v3 (v4 + 1) M2 h
      · have h := hf q
        refine am_Wrun 3 (ps := []) (pc' := 5) (lv' := [(4, .inl (v4 + 1)), (3, .inl (v3 + 1)), (0, .inr (.inl (some 0))), (1, .inl (v1)), (2, .inl (v2))]) (st' := []) (M' := M2) rfl trivial ?_
        refine am_W_sub [2, 3, 4, 1, 0] rfl ?_
        exact tw_X5_brokenAmong_5 n v1 v2 (v3 + 1) (v4 + 1) M2 h
set_option maxRecDepth 20000 in
theorem tm_X5_brokenAmong {a0 a1 : Int} {M : am_M} {Q : Int → am_M → Prop} (h : wp_X5_brokenAmong a0 a1 M Q) : am_CC 4 35 [.inr (.inl (some 0)), .inl (a0), .inl (a1)] M (am_QI Q) (fun _ _ => False) := by
  refine ⟨Nat.le_of_ble_eq_true rfl, ?_⟩
  show am_W (am_CC 3) dt_X5_brokenAmong 3 0 none (am_QI Q) (am_qx 35 (fun _ _ => False)) (0, 0, [(0, .inr (.inl (some 0))), (1, .inl (a0)), (2, .inl (a1))], [], M)
  refine am_Wrun 4 (ps := []) (pc' := 5) (lv' := [(4, .inl (0)), (3, .inl (0)), (0, .inr (.inl (some 0))), (1, .inl (a0)), (2, .inl (a1))]) (st' := []) (M' := M) rfl trivial ?_
  refine am_W_sub [2, 3, 4, 1, 0] rfl ?_
  obtain ⟨n5, h⟩ := h
  exact tw_X5_brokenAmong_5 n5 a0 a1 0 0 M h
abbrev dt_X5_stretch : am_D := (tk_X5_stretch, 5, 3, some .int, tb_hn 50)
def wp_X5_stretch (a0 : Int) (a1 : Int) (M : am_M) (Q : Int → am_M → Prop) (X : am_X) : Prop := wp_X5_refuseNoStretch a0 M (fun M1 => wp_X5_refuseOutside a1 4 M1 (fun M2 => (am_rg a1) ∧ ((a1 < 0 ∨ 3 < a1) → wp_X4_fewestOf a0 M2 (fun x3 M4 => Q x3 M4)) ∧ (a1 = 0 → wp_X2_firstOf a0 M2 (fun x5 M6 => Q x5 M6)) ∧ (a1 = 1 → wp_X2_sizeOf a0 M2 (fun x7 M8 => Q x7 M8)) ∧ (a1 = 2 → wp_X2_keptOf a0 M2 (fun x9 M10 => Q x9 M10)) ∧ (a1 = 3 → wp_X2_firstOf a0 M2 (fun x11 M12 => wp_X2_sizeOf a0 M12 (fun x13 M14 => wp_X5_brokenAmong x11 x13 M14 (fun x15 M16 => Q x15 M16))))) X) X
set_option maxRecDepth 20000 in
theorem tm_X5_stretch {a0 a1 : Int} {M : am_M} {Q : Int → am_M → Prop} {X : am_X} (h : wp_X5_stretch a0 a1 M Q X) : am_CC 7 50 [.inr (.inl (some 0)), .inl (a0), .inl (a1)] M (am_QI Q) X := by
  refine ⟨Nat.le_of_ble_eq_true rfl, ?_⟩
  show am_W (am_CC 6) dt_X5_stretch 6 0 none (am_QI Q) (am_qx 50 X) (0, 0, [(0, .inr (.inl (some 0))), (1, .inl (a0)), (2, .inl (a1))], [], M)
  have hX : ∀ E M, X E M → am_qx 50 X E M := fun E M q => ⟨⟨rfl, by decide⟩, q⟩
  refine am_Wrun 2 (ps := []) (pc' := 2) (lv' := [(0, .inr (.inl (some 0))), (1, .inl (a0)), (2, .inl (a1))]) (st' := [.inl (a0), .inr (.inl (some 0))]) (M' := M) rfl trivial ?_
  refine am_WcallV (y := 51) (n := 2) (a := 0) (f := 5) (as := [.inl (a0)]) (st' := []) rfl rfl rfl rfl rfl rfl rfl rfl rfl rfl (Nat.zero_le _) rfl (am_CC_le (Nat.le_of_ble_eq_true rfl) (tm_X5_refuseNoStretch h)) (fun r M1 q => ?_) (fun E M q => hX _ _ q)
  obtain ⟨rfl, h⟩ := q
  refine am_Wrun 2 (ps := []) (pc' := 7) (lv' := [(0, .inr (.inl (some 0))), (1, .inl (a0)), (2, .inl (a1))]) (st' := [.inl (4), .inl (a1)]) (M' := M1) rfl trivial ?_
  refine am_WcallS (y := 34) (n := 2) (f := 10) (co := 0) (as := [.inl (a1), .inl (4)]) (st' := []) rfl rfl rfl rfl rfl rfl rfl rfl rfl (Nat.zero_le _) rfl (am_CC_le (Nat.le_of_ble_eq_true rfl) (tm_X5_refuseOutside h)) (fun r M2 q => ?_) (fun E M q => hX _ _ q)
  obtain ⟨rfl, h⟩ := q
  refine am_Wrun 1 (ps := []) (pc' := 11) (lv' := [(0, .inr (.inl (some 0))), (1, .inl (a0)), (2, .inl (a1))]) (st' := [.inl (a1)]) (M' := M2) rfl trivial ?_
  obtain ⟨c0, hd, j0, j1, j2, j3⟩ := h
  refine am_Wsw (n := 4) (t := 88) rfl c0 rfl (by decide) (fun q => ?_) (fun j hj e2 => ?_)
  · have h := hd q
    refine am_Wrun 3 (ps := []) (pc' := 93) (lv' := [(0, .inr (.inl (some 0))), (1, .inl (a0)), (2, .inl (a1))]) (st' := [.inl (a0), .inr (.inl (some 10))]) (M' := M2) rfl trivial ?_
    refine am_WcallV (y := 55) (n := 2) (a := 10) (f := 96) (as := [.inl (a0)]) (st' := []) rfl rfl rfl rfl rfl rfl rfl rfl rfl rfl (Nat.zero_le _) rfl (am_CC_le (Nat.le_of_ble_eq_true rfl) (tm_X4_fewestOf h)) (fun r M4 q => ?_) (fun _ _ q => q.elim)
    obtain ⟨x3, rfl, h⟩ := q
    exact am_Wreti rfl rfl h
  · match j, hj, e2 with
    | 0, _, e2 =>
      have h := j0 e2
      refine ⟨_, 40, rfl, rfl, ?_⟩
      refine am_Wrun 3 (ps := []) (pc' := 45) (lv' := [(0, .inr (.inl (some 0))), (1, .inl (a0)), (2, .inl (a1))]) (st' := [.inl (a0), .inr (.inl (some 1))]) (M' := M2) rfl trivial ?_
      refine am_WcallV (y := 52) (n := 2) (a := 1) (f := 48) (as := [.inl (a0)]) (st' := []) rfl rfl rfl rfl rfl rfl rfl rfl rfl rfl (Nat.zero_le _) rfl (am_CC_le (Nat.le_of_ble_eq_true rfl) (tm_X2_firstOf h)) (fun r M6 q => ?_) (fun _ _ q => q.elim)
      obtain ⟨x5, rfl, h⟩ := q
      exact am_Wreti rfl rfl h
    | 1, _, e2 =>
      have h := j1 e2
      refine ⟨_, 49, rfl, rfl, ?_⟩
      refine am_Wrun 3 (ps := []) (pc' := 54) (lv' := [(0, .inr (.inl (some 0))), (1, .inl (a0)), (2, .inl (a1))]) (st' := [.inl (a0), .inr (.inl (some 1))]) (M' := M2) rfl trivial ?_
      refine am_WcallV (y := 53) (n := 2) (a := 1) (f := 57) (as := [.inl (a0)]) (st' := []) rfl rfl rfl rfl rfl rfl rfl rfl rfl rfl (Nat.zero_le _) rfl (am_CC_le (Nat.le_of_ble_eq_true rfl) (tm_X2_sizeOf h)) (fun r M8 q => ?_) (fun _ _ q => q.elim)
      obtain ⟨x7, rfl, h⟩ := q
      exact am_Wreti rfl rfl h
    | 2, _, e2 =>
      have h := j2 e2
      refine ⟨_, 58, rfl, rfl, ?_⟩
      refine am_Wrun 3 (ps := []) (pc' := 63) (lv' := [(0, .inr (.inl (some 0))), (1, .inl (a0)), (2, .inl (a1))]) (st' := [.inl (a0), .inr (.inl (some 1))]) (M' := M2) rfl trivial ?_
      refine am_WcallV (y := 54) (n := 2) (a := 1) (f := 66) (as := [.inl (a0)]) (st' := []) rfl rfl rfl rfl rfl rfl rfl rfl rfl rfl (Nat.zero_le _) rfl (am_CC_le (Nat.le_of_ble_eq_true rfl) (tm_X2_keptOf h)) (fun r M10 q => ?_) (fun _ _ q => q.elim)
      obtain ⟨x9, rfl, h⟩ := q
      exact am_Wreti rfl rfl h
    | 3, _, e2 =>
      have h := j3 e2
      refine ⟨_, 67, rfl, rfl, ?_⟩
      refine am_Wrun 4 (ps := []) (pc' := 73) (lv' := [(0, .inr (.inl (some 0))), (1, .inl (a0)), (2, .inl (a1))]) (st' := [.inl (a0), .inr (.inl (some 1)), .inr (.inl (some 0))]) (M' := M2) rfl trivial ?_
      refine am_WcallV (y := 52) (n := 2) (a := 1) (f := 76) (as := [.inl (a0)]) (st' := [.inr (.inl (some 0))]) rfl rfl rfl rfl rfl rfl rfl rfl rfl rfl (Nat.zero_le _) rfl (am_CC_le (Nat.le_of_ble_eq_true rfl) (tm_X2_firstOf h)) (fun r M12 q => ?_) (fun _ _ q => q.elim)
      obtain ⟨x11, rfl, h⟩ := q
      refine am_Wrun 3 (ps := []) (pc' := 81) (lv' := [(0, .inr (.inl (some 0))), (1, .inl (a0)), (2, .inl (a1))]) (st' := [.inl (a0), .inr (.inl (some 1)), .inl (x11), .inr (.inl (some 0))]) (M' := M12) rfl trivial ?_
      refine am_WcallV (y := 53) (n := 2) (a := 1) (f := 84) (as := [.inl (a0)]) (st' := [.inl (x11), .inr (.inl (some 0))]) rfl rfl rfl rfl rfl rfl rfl rfl rfl rfl (Nat.zero_le _) rfl (am_CC_le (Nat.le_of_ble_eq_true rfl) (tm_X2_sizeOf h)) (fun r M14 q => ?_) (fun _ _ q => q.elim)
      obtain ⟨x13, rfl, h⟩ := q
      refine am_WcallV (y := 35) (n := 3) (a := 0) (f := 87) (as := [.inl (x11), .inl (x13)]) (st' := []) rfl rfl rfl rfl rfl rfl rfl rfl rfl rfl (Nat.zero_le _) rfl (am_CC_le (Nat.le_of_ble_eq_true rfl) (tm_X5_brokenAmong h)) (fun r M16 q => ?_) (fun _ _ q => q.elim)
      obtain ⟨x15, rfl, h⟩ := q
      exact am_Wreti rfl rfl h
    | n + 4, hj, _ => exact absurd hj (by omega)
abbrev dt_L_stretch : am_D := (tk_L_stretch, 9, 5, some .int, tb_hn 213)
def wp_L_stretch (a1 : Int) (a2 : Int) (M : am_M) (Q : Int → am_M → Prop) : Prop := wp_X5_stretch a1 a2 M (fun x1 M2 => (am_rg x1) ∧ (Q 0 (am_up M2 80 0 x1))) (fun E M3 => (E = 2 ∧ Q 1 M3) ∨ (E = 0 ∧ Q 2 M3))
set_option maxRecDepth 20000 in
theorem tm_L_stretch {a1 a2 : Int} {M : am_M} {Q : Int → am_M → Prop} (h : wp_L_stretch a1 a2 M Q) : am_CC 8 213 [.inr (.inl (some 0)), .inl (a1), .inl (a2), .inr (.inl (some 80))] M (am_QI Q) (fun _ _ => False) := by
  refine ⟨Nat.le_of_ble_eq_true rfl, ?_⟩
  show am_W (am_CC 7) dt_L_stretch 7 1 none (am_QI Q) (am_qx 213 (fun _ _ => False)) (0, 0, [(0, .inr (.inl (some 0))), (1, .inl (a1)), (2, .inl (a2)), (3, .inr (.inl (some 80)))], [], M)
  refine am_Wrun 5 (ps := []) (pc' := 5) (lv' := [(0, .inr (.inl (some 0))), (1, .inl (a1)), (2, .inl (a2)), (3, .inr (.inl (some 80)))]) (st' := [.inl (a2), .inl (a1), .inr (.inl (some 0)), .inl (0), .inr (.inl (some 80))]) (M' := M) rfl trivial ?_
  refine am_WcallV (y := 50) (n := 3) (a := 0) (f := 8) (as := [.inl (a1), .inl (a2)]) (st' := [.inl (0), .inr (.inl (some 80))]) rfl rfl rfl rfl rfl rfl rfl rfl rfl rfl (Nat.zero_le _) rfl (am_CC_le (Nat.le_of_ble_eq_true rfl) (tm_X5_stretch h)) (fun r M2 q => ?_) (fun E M3 q => ?_)
  · obtain ⟨x1, rfl, h⟩ := q
    obtain ⟨c0_0, h⟩ := h
    refine am_Wrun 4 (ps := [am_rg x1, 0 ≤ (0 : Int) ∧ (0 : Int) < 1]) (pc' := 22) (lv' := [(0, .inr (.inl (some 0))), (1, .inl (a1)), (2, .inl (a2)), (3, .inr (.inl (some 80)))]) (st' := [.inl (0)]) (M' := (am_up M2 80 0 x1)) rfl ⟨c0_0, ⟨by decide, by decide⟩, trivial⟩ ?_
    exact am_Wreti rfl rfl h
  · rcases q with ⟨rfl, h⟩ | ⟨rfl, h⟩
    · show 0 + 1 ≤ 1 ∧ am_W (am_CC 7) dt_L_stretch 7 1 none (am_QI Q) _ (0 + 1, 15, [(0, .inr (.inl (some 0))), (1, .inl (a1)), (2, .inl (a2)), (3, .inr (.inl (some 80)))], [], M3)
      refine ⟨Nat.le_refl _, ?_⟩
      refine am_Wrun 1 (ps := []) (pc' := 16) (lv' := [(0, .inr (.inl (some 0))), (1, .inl (a1)), (2, .inl (a2)), (3, .inr (.inl (some 80)))]) (st' := [.inl (1)]) (M' := M3) rfl trivial ?_
      exact am_Wreti rfl rfl h
    · show 0 + 1 ≤ 1 ∧ am_W (am_CC 7) dt_L_stretch 7 1 none (am_QI Q) _ (0 + 1, 19, [(0, .inr (.inl (some 0))), (1, .inl (a1)), (2, .inl (a2)), (3, .inr (.inl (some 80)))], [], M3)
      refine ⟨Nat.le_refl _, ?_⟩
      refine am_Wrun 1 (ps := []) (pc' := 20) (lv' := [(0, .inr (.inl (some 0))), (1, .inl (a1)), (2, .inl (a2)), (3, .inr (.inl (some 80)))]) (st' := [.inl (2)]) (M' := M3) rfl trivial ?_
      exact am_Wreti rfl rfl h
