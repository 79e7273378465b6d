abbrev dt_X6_canJoin : am_D := (tk_X6_canJoin, 6, 4, some .boolean, tb_hn 128)
def wp_X6_canJoin (a0 : Int) (a1 : Int) (a2 : Int) (M : am_M) (Q : Int → am_M → Prop) : Prop := wp_X6_withinMany a0 a1 a2 M (fun x1 M2 => (am_rg x1) ∧ (am_rg ((a1 - a0) - 1)) ∧ (¬ x1 = ((a1 - a0) - 1) → Q 0 M2) ∧ (¬ (¬ x1 = ((a1 - a0) - 1)) → Q 1 M2))
set_option maxRecDepth 20000 in
theorem tm_X6_canJoin {a0 a1 a2 : Int} {M : am_M} {Q : Int → am_M → Prop} (h : wp_X6_canJoin a0 a1 a2 M Q) : am_CC 5 128 [.inr (.inl (some 69)), .inl (a0), .inl (a1), .inl (a2)] M (am_QI Q) (fun _ _ => False) := by
  refine ⟨Nat.le_of_ble_eq_true rfl, ?_⟩
  show am_W (am_CC 4) dt_X6_canJoin 4 0 none (am_QI Q) (am_qx 128 (fun _ _ => False)) (0, 0, [(0, .inr (.inl (some 69))), (1, .inl (a0)), (2, .inl (a1)), (3, .inl (a2))], [], M)
  refine am_Wrun 4 (ps := []) (pc' := 4) (lv' := [(0, .inr (.inl (some 69))), (1, .inl (a0)), (2, .inl (a1)), (3, .inl (a2))]) (st' := [.inl (a2), .inl (a1), .inl (a0), .inr (.inl (some 69))]) (M' := M) rfl trivial ?_
  refine am_WcallV (y := 129) (n := 4) (a := 69) (f := 7) (as := [.inl (a0), .inl (a1), .inl (a2)]) (st' := []) rfl rfl rfl rfl rfl rfl rfl rfl rfl rfl (Nat.zero_le _) rfl (am_CC_le (Nat.le_of_ble_eq_true rfl) (tm_X6_withinMany h)) (fun r M2 q => ?_) (fun _ _ q => q.elim)
  obtain ⟨x1, rfl, h⟩ := q
  refine am_Wrun 5 (ps := []) (pc' := 12) (lv' := [(0, .inr (.inl (some 69))), (1, .inl (a0)), (2, .inl (a1)), (3, .inl (a2))]) (st' := [.inl ((a1 - a0) - 1), .inl (x1)]) (M' := M2) rfl trivial ?_
  obtain ⟨b0, b1, ht, hf⟩ := h
  refine am_Wbr (P := [am_rg x1, am_rg ((a1 - a0) - 1)]) (c := ¬ x1 = ((a1 - a0) - 1)) (t := 19) (f := 15) (st' := []) rfl rfl ⟨b0, b1, trivial⟩ rfl (fun q => ?_) (fun q => ?_)
  · have h := ht q
    refine am_Wrun 1 (ps := []) (pc' := 20) (lv' := [(0, .inr (.inl (some 69))), (1, .inl (a0)), (2, .inl (a1)), (3, .inl (a2))]) (st' := [.inl (0)]) (M' := M2) rfl trivial ?_
    exact am_Wretz rfl rfl (Or.inl rfl) h
  · have h := hf q
    refine am_Wrun 2 (ps := []) (pc' := 20) (lv' := [(0, .inr (.inl (some 69))), (1, .inl (a0)), (2, .inl (a1)), (3, .inl (a2))]) (st' := [.inl (1)]) (M' := M2) rfl trivial ?_
    exact am_Wretz rfl rfl (Or.inr rfl) h
abbrev dt_X6_against : am_D := (tk_X6_against, 6, 2, some .int, tb_hn 122)
def wp_X6_against (a0 : Int) (M : am_M) (Q : Int → am_M → Prop) : Prop := wp_X6_isKept a0 M (fun x1 M2 => (am_rg x1) ∧ (¬ x1 = 0 → wp_X6_neighbors a0 M2 (fun M3 => (am_rg (M3 69 9)) ∧ ((M3 69 9) < 0 → Q 2 M3) ∧ (¬ (M3 69 9) < 0 → (am_rg (M3 69 10)) ∧ (0 ≤ (M3 69 10) → wp_X6_canJoin (M3 69 9) (M3 69 10) (M3 70 4) M3 (fun x4 M5 => (am_rg x4) ∧ (x4 = 0 → Q 3 M5) ∧ (¬ x4 = 0 → Q 0 M5))) ∧ (¬ 0 ≤ (M3 69 10) → Q 2 M3)))) ∧ (¬ (¬ x1 = 0) → Q 1 M2))
set_option maxRecDepth 20000 in
theorem tm_X6_against {a0 : Int} {M : am_M} {Q : Int → am_M → Prop} (h : wp_X6_against a0 M Q) : am_CC 6 122 [.inr (.inl (some 69)), .inl (a0)] M (am_QI Q) (fun _ _ => False) := by
  refine ⟨Nat.le_of_ble_eq_true rfl, ?_⟩
  show am_W (am_CC 5) dt_X6_against 5 0 none (am_QI Q) (am_qx 122 (fun _ _ => False)) (0, 0, [(0, .inr (.inl (some 69))), (1, .inl (a0))], [], M)
  refine am_Wrun 2 (ps := []) (pc' := 2) (lv' := [(0, .inr (.inl (some 69))), (1, .inl (a0))]) (st' := [.inl (a0), .inr (.inl (some 69))]) (M' := M) rfl trivial ?_
  refine am_WcallV (y := 123) (n := 2) (a := 69) (f := 5) (as := [.inl (a0)]) (st' := []) rfl rfl rfl rfl rfl rfl rfl rfl rfl rfl (Nat.zero_le _) rfl (am_CC_le (Nat.le_of_ble_eq_true rfl) (tm_X6_isKept h)) (fun r M2 q => ?_) (fun _ _ q => q.elim)
  obtain ⟨x1, rfl, h⟩ := q
  obtain ⟨b0, ht, hf⟩ := h
  refine am_Wbr (P := [am_rg x1]) (c := ¬ x1 = 0) (t := 10) (f := 8) (st' := []) rfl rfl ⟨b0, trivial⟩ rfl (fun q => ?_) (fun q => ?_)
  · have h := ht q
    refine am_Wrun 2 (ps := []) (pc' := 12) (lv' := [(0, .inr (.inl (some 69))), (1, .inl (a0))]) (st' := [.inl (a0), .inr (.inl (some 69))]) (M' := M2) rfl trivial ?_
    refine am_WcallV (y := 124) (n := 2) (a := 69) (f := 15) (as := [.inl (a0)]) (st' := []) rfl rfl rfl rfl rfl rfl rfl rfl rfl rfl (Nat.zero_le _) rfl (am_CC_le (Nat.le_of_ble_eq_true rfl) (tm_X6_neighbors h)) (fun r M3 q => ?_) (fun _ _ q => q.elim)
    obtain ⟨rfl, h⟩ := q
    refine am_Wrun 2 (ps := []) (pc' := 19) (lv' := [(0, .inr (.inl (some 69))), (1, .inl (a0))]) (st' := [.inl (M3 69 9)]) (M' := M3) rfl trivial ?_
    obtain ⟨b0, ht, hf⟩ := h
    refine am_Wbr (P := [am_rg (M3 69 9)]) (c := (M3 69 9) < 0) (t := 29) (f := 22) (st' := []) rfl rfl ⟨b0, trivial⟩ rfl (fun q => ?_) (fun q => ?_)
    · have h := ht q
      refine am_Wrun 2 (ps := []) (pc' := 59) (lv' := [(0, .inr (.inl (some 69))), (1, .inl (a0))]) (st' := [.inl (2)]) (M' := M3) rfl trivial ?_
      exact am_Wreti rfl rfl h
    · have h := hf q
      refine am_Wrun 2 (ps := []) (pc' := 26) (lv' := [(0, .inr (.inl (some 69))), (1, .inl (a0))]) (st' := [.inl (M3 69 10)]) (M' := M3) rfl trivial ?_
      obtain ⟨b0, ht, hf⟩ := h
      refine am_Wbr (P := [am_rg (M3 69 10)]) (c := 0 ≤ (M3 69 10)) (t := 33) (f := 29) (st' := []) rfl rfl ⟨b0, trivial⟩ rfl (fun q => ?_) (fun q => ?_)
      · have h := ht q
        refine am_Wrun 9 (ps := [0 ≤ (4 : Int) ∧ (4 : Int) < 203]) (pc' := 48) (lv' := [(0, .inr (.inl (some 69))), (1, .inl (a0))]) (st' := [.inl (M3 70 4), .inl (M3 69 10), .inl (M3 69 9), .inr (.inl (some 69))]) (M' := M3) rfl ⟨⟨by decide, by decide⟩, trivial⟩ ?_
        refine am_WcallV (y := 128) (n := 4) (a := 69) (f := 51) (as := [.inl (M3 69 9), .inl (M3 69 10), .inl (M3 70 4)]) (st' := []) rfl rfl rfl rfl rfl rfl rfl rfl rfl rfl (Nat.zero_le _) rfl (am_CC_le (Nat.le_of_ble_eq_true rfl) (tm_X6_canJoin h)) (fun r M5 q => ?_) (fun _ _ q => q.elim)
        obtain ⟨x4, rfl, h⟩ := q
        obtain ⟨b0, ht, hf⟩ := h
        refine am_Wbr (P := [am_rg x4]) (c := x4 = 0) (t := 58) (f := 54) (st' := []) rfl rfl ⟨b0, trivial⟩ rfl (fun q => ?_) (fun q => ?_)
        · have h := ht q
          refine am_Wrun 1 (ps := []) (pc' := 59) (lv' := [(0, .inr (.inl (some 69))), (1, .inl (a0))]) (st' := [.inl (3)]) (M' := M5) rfl trivial ?_
          exact am_Wreti rfl rfl h
        · have h := hf q
          refine am_Wrun 2 (ps := []) (pc' := 59) (lv' := [(0, .inr (.inl (some 69))), (1, .inl (a0))]) (st' := [.inl (0)]) (M' := M5) rfl trivial ?_
          exact am_Wreti rfl rfl h
      · have h := hf q
        refine am_Wrun 2 (ps := []) (pc' := 59) (lv' := [(0, .inr (.inl (some 69))), (1, .inl (a0))]) (st' := [.inl (2)]) (M' := M3) rfl trivial ?_
        exact am_Wreti rfl rfl h
  · have h := hf q
    refine am_Wrun 1 (ps := []) (pc' := 9) (lv' := [(0, .inr (.inl (some 69))), (1, .inl (a0))]) (st' := [.inl (1)]) (M' := M2) rfl trivial ?_
    exact am_Wreti rfl rfl h
abbrev dt_X6_keptMany : am_D := (tk_X6_keptMany, 6, 3, some .int, tb_hn 135)
def wl_X6_keptMany_4 (Q : Int → am_M → Prop) : Nat → Int → Int → am_M → Prop
  | 0, _, _, _ => False
  | n + 1, v1, v2, M => (am_rg v2) ∧ (am_rg (M 70 0)) ∧ ((M 70 0) ≤ v2 → Q v1 M) ∧ (¬ (M 70 0) ≤ v2 → (0 ≤ (127 + v2 : Int) ∧ (127 + v2 : Int) < 203) ∧ (wl_X6_keptMany_4 Q n (v1 + (M 70 (127 + v2))) (v2 + 1) M))
def wp_X6_keptMany (M : am_M) (Q : Int → am_M → Prop) : Prop := ∃ e4, wl_X6_keptMany_4 Q e4 0 0 M
set_option maxRecDepth 20000 in
theorem tw_X6_keptMany_4 {Q : Int → am_M → Prop} {QX : am_X} : ∀ (n : Nat) (v1 : Int) (v2 : Int) (M : am_M), wl_X6_keptMany_4 Q n v1 v2 M → am_W (am_CC 0) dt_X6_keptMany 0 0 none (am_QI Q) QX (0, 4, [(0, .inr (.inl (some 69))), (1, .inl (v1)), (2, .inl (v2))], [], M)
  | 0, _, _, _, h => h.elim
  | n + 1, v1, v2, M, h => by
    refine am_Wrun 5 (ps := [0 ≤ (0 : Int) ∧ (0 : Int) < 203]) (pc' := 11) (lv' := [(0, .inr (.inl (some 69))), (1, .inl (v1)), (2, .inl (v2))]) (st' := [.inl (M 70 0), .inl (v2)]) (M' := M) rfl ⟨⟨by decide, by decide⟩, trivial⟩ ?_
    obtain ⟨b0, b1, ht, hf⟩ := h
    refine am_Wbr (P := [am_rg v2, am_rg (M 70 0)]) (c := (M 70 0) ≤ v2) (t := 32) (f := 14) (st' := []) rfl rfl ⟨b0, b1, trivial⟩ rfl (fun q => ?_) (fun q => ?_)
    · have h := ht q
      refine am_Wrun 1 (ps := []) (pc' := 33) (lv' := [(0, .inr (.inl (some 69))), (1, .inl (v1)), (2, .inl (v2))]) (st' := [.inl (v1)]) (M' := M) rfl trivial ?_
      exact am_Wreti rfl rfl h
    · have h := hf q
      obtain ⟨c1_0, h⟩ := h
      refine am_Wrun 11 (ps := [-128 ≤ (127 : Int) ∧ (127 : Int) ≤ 127, 0 ≤ (127 + v2 : Int) ∧ (127 + v2 : Int) < 203]) (pc' := 4) (lv' := [(2, .inl (v2 + 1)), (1, .inl (v1 + (M 70 (127 + v2)))), (0, .inr (.inl (some 69)))]) (st' := []) (M' := M) rfl ⟨⟨by decide, by decide⟩, c1_0, trivial⟩ ?_
      refine am_W_sub [2, 1, 0] rfl ?_
      exact tw_X6_keptMany_4 n (v1 + (M 70 (127 + v2))) (v2 + 1) M h
set_option maxRecDepth 20000 in
theorem tm_X6_keptMany {M : am_M} {Q : Int → am_M → Prop} (h : wp_X6_keptMany M Q) : am_CC 1 135 [.inr (.inl (some 69))] M (am_QI Q) (fun _ _ => False) := by
  refine ⟨Nat.le_of_ble_eq_true rfl, ?_⟩
  show am_W (am_CC 0) dt_X6_keptMany 0 0 none (am_QI Q) (am_qx 135 (fun _ _ => False)) (0, 0, [(0, .inr (.inl (some 69)))], [], M)
  refine am_Wrun 4 (ps := []) (pc' := 4) (lv' := [(2, .inl (0)), (1, .inl (0)), (0, .inr (.inl (some 69)))]) (st' := []) (M' := M) rfl trivial ?_
  refine am_W_sub [2, 1, 0] rfl ?_
  obtain ⟨n4, h⟩ := h
  exact tw_X6_keptMany_4 n4 0 0 M h
abbrev dt_X6_keeps : am_D := (tk_X6_keeps, 6, 3, some .int, tb_hn 134)
def wp_X6_keeps (a0 : Int) (a1 : Int) (M : am_M) (Q : Int → am_M → Prop) : Prop := wp_X6_save M (fun M1 => (0 ≤ (127 + a0 : Int) ∧ (127 + a0 : Int) < 203) ∧ (wp_X6_keptMany (am_up M1 70 (127 + a0) a1) (fun x2 M3 => Q x2 M3)))
set_option maxRecDepth 20000 in
theorem tm_X6_keeps {a0 a1 : Int} {M : am_M} {Q : Int → am_M → Prop} (h : wp_X6_keeps a0 a1 M Q) : am_CC 2 134 [.inr (.inl (some 69)), .inl (a0), .inl (a1)] M (am_QI Q) (fun _ _ => False) := by
  refine ⟨Nat.le_of_ble_eq_true rfl, ?_⟩
  show am_W (am_CC 1) dt_X6_keeps 1 0 none (am_QI Q) (am_qx 134 (fun _ _ => False)) (0, 0, [(0, .inr (.inl (some 69))), (1, .inl (a0)), (2, .inl (a1))], [], M)
  refine am_Wrun 1 (ps := []) (pc' := 1) (lv' := [(0, .inr (.inl (some 69))), (1, .inl (a0)), (2, .inl (a1))]) (st' := [.inr (.inl (some 69))]) (M' := M) rfl trivial ?_
  refine am_WcallV (y := 116) (n := 1) (a := 69) (f := 4) (as := []) (st' := []) rfl rfl rfl rfl rfl rfl rfl rfl rfl rfl (Nat.zero_le _) rfl (am_CC_le (Nat.le_of_ble_eq_true rfl) (tm_X6_save h)) (fun r M1 q => ?_) (fun _ _ q => q.elim)
  obtain ⟨rfl, h⟩ := q
  obtain ⟨c1_0, h⟩ := h
  refine am_Wrun 8 (ps := [-128 ≤ (127 : Int) ∧ (127 : Int) ≤ 127, 0 ≤ (127 + a0 : Int) ∧ (127 + a0 : Int) < 203]) (pc' := 15) (lv' := [(0, .inr (.inl (some 69))), (1, .inl (a0)), (2, .inl (a1))]) (st' := [.inr (.inl (some 69))]) (M' := (am_up M1 70 (127 + a0) a1)) rfl ⟨⟨by decide, by decide⟩, c1_0, trivial⟩ ?_
  refine am_WcallV (y := 135) (n := 1) (a := 69) (f := 18) (as := []) (st' := []) rfl rfl rfl rfl rfl rfl rfl rfl rfl rfl (Nat.zero_le _) rfl (am_CC_le (Nat.le_of_ble_eq_true rfl) (tm_X6_keptMany h)) (fun r M3 q => ?_) (fun _ _ q => q.elim)
  obtain ⟨x2, rfl, h⟩ := q
  exact am_Wreti rfl rfl h
abbrev dt_X6_drop : am_D := (tk_X6_drop, 6, 2, some .int, tb_hn 121)
def wp_X6_drop (a0 : Int) (M : am_M) (Q : Int → am_M → Prop) : Prop := wp_X6_isPoint a0 (am_up M 69 5 0) (fun x1 M2 => (am_rg x1) ∧ (¬ x1 = 0 → wp_X6_against a0 M2 (fun x3 M4 => (am_rg x3) ∧ (x3 ≤ 0 → wp_X6_keeps a0 0 M4 (fun x5 M6 => Q x5 M6)) ∧ (¬ x3 ≤ 0 → wp_X6_fails 2 M4 (fun x7 M8 => Q x7 M8)))) ∧ (¬ (¬ x1 = 0) → wp_X6_fails 1 M2 (fun x9 M10 => Q x9 M10)))
set_option maxRecDepth 20000 in
theorem tm_X6_drop {a0 : Int} {M : am_M} {Q : Int → am_M → Prop} (h : wp_X6_drop a0 M Q) : am_CC 7 121 [.inr (.inl (some 69)), .inl (a0)] M (am_QI Q) (fun _ _ => False) := by
  refine ⟨Nat.le_of_ble_eq_true rfl, ?_⟩
  show am_W (am_CC 6) dt_X6_drop 6 0 none (am_QI Q) (am_qx 121 (fun _ _ => False)) (0, 0, [(0, .inr (.inl (some 69))), (1, .inl (a0))], [], M)
  refine am_Wrun 5 (ps := []) (pc' := 7) (lv' := [(0, .inr (.inl (some 69))), (1, .inl (a0))]) (st' := [.inl (a0), .inr (.inl (some 69))]) (M' := (am_up M 69 5 0)) rfl trivial ?_
  refine am_WcallV (y := 119) (n := 2) (a := 69) (f := 10) (as := [.inl (a0)]) (st' := []) rfl rfl rfl rfl rfl rfl rfl rfl rfl rfl (Nat.zero_le _) rfl (am_CC_le (Nat.le_of_ble_eq_true rfl) (tm_X6_isPoint h)) (fun r M2 q => ?_) (fun _ _ q => q.elim)
  obtain ⟨x1, rfl, h⟩ := q
  obtain ⟨b0, ht, hf⟩ := h
  refine am_Wbr (P := [am_rg x1]) (c := ¬ x1 = 0) (t := 19) (f := 13) (st' := []) rfl rfl ⟨b0, trivial⟩ rfl (fun q => ?_) (fun q => ?_)
  · have h := ht q
    refine am_Wrun 2 (ps := []) (pc' := 21) (lv' := [(0, .inr (.inl (some 69))), (1, .inl (a0))]) (st' := [.inl (a0), .inr (.inl (some 69))]) (M' := M2) rfl trivial ?_
    refine am_WcallV (y := 122) (n := 2) (a := 69) (f := 24) (as := [.inl (a0)]) (st' := []) rfl rfl rfl rfl rfl rfl rfl rfl rfl rfl (Nat.zero_le _) rfl (am_CC_le (Nat.le_of_ble_eq_true rfl) (tm_X6_against h)) (fun r M4 q => ?_) (fun _ _ q => q.elim)
    obtain ⟨x3, rfl, h⟩ := q
    obtain ⟨b0, ht, hf⟩ := h
    refine am_Wbr (P := [am_rg x3]) (c := x3 ≤ 0) (t := 35) (f := 27) (st' := []) rfl rfl ⟨b0, trivial⟩ rfl (fun q => ?_) (fun q => ?_)
    · have h := ht q
      refine am_Wrun 3 (ps := []) (pc' := 38) (lv' := [(0, .inr (.inl (some 69))), (1, .inl (a0))]) (st' := [.inl (0), .inl (a0), .inr (.inl (some 69))]) (M' := M4) rfl trivial ?_
      refine am_WcallV (y := 134) (n := 3) (a := 69) (f := 41) (as := [.inl (a0), .inl (0)]) (st' := []) rfl rfl rfl rfl rfl rfl rfl rfl rfl rfl (Nat.zero_le _) rfl (am_CC_le (Nat.le_of_ble_eq_true rfl) (tm_X6_keeps h)) (fun r M6 q => ?_) (fun _ _ q => q.elim)
      obtain ⟨x5, rfl, h⟩ := q
      exact am_Wreti rfl rfl h
    · have h := hf q
      refine am_Wrun 2 (ps := []) (pc' := 29) (lv' := [(0, .inr (.inl (some 69))), (1, .inl (a0))]) (st' := [.inl (2), .inr (.inl (some 69))]) (M' := M4) rfl trivial ?_
      refine am_WcallV (y := 113) (n := 2) (a := 69) (f := 32) (as := [.inl (2)]) (st' := []) rfl rfl rfl rfl rfl rfl rfl rfl rfl rfl (Nat.zero_le _) rfl (am_CC_le (Nat.le_of_ble_eq_true rfl) (tm_X6_fails h)) (fun r M8 q => ?_) (fun _ _ q => q.elim)
      obtain ⟨x7, rfl, h⟩ := q
      refine am_Wrun 1 (ps := []) (pc' := 41) (lv' := [(0, .inr (.inl (some 69))), (1, .inl (a0))]) (st' := [.inl (x7)]) (M' := M8) rfl trivial ?_
      exact am_Wreti rfl rfl h
  · have h := hf q
    refine am_Wrun 2 (ps := []) (pc' := 15) (lv' := [(0, .inr (.inl (some 69))), (1, .inl (a0))]) (st' := [.inl (1), .inr (.inl (some 69))]) (M' := M2) rfl trivial ?_
    refine am_WcallV (y := 113) (n := 2) (a := 69) (f := 18) (as := [.inl (1)]) (st' := []) rfl rfl rfl rfl rfl rfl rfl rfl rfl rfl (Nat.zero_le _) rfl (am_CC_le (Nat.le_of_ble_eq_true rfl) (tm_X6_fails h)) (fun r M10 q => ?_) (fun _ _ q => q.elim)
    obtain ⟨x9, rfl, h⟩ := q
    exact am_Wreti rfl rfl h
abbrev dt_X5_keep : am_D := (tk_X5_keep, 5, 2, some .int, tb_hn 87)
def wp_X5_keep (a0 : Int) (M : am_M) (Q : Int → am_M → Prop) (X : am_X) : Prop := wp_X5_refuseNoPoint a0 M (fun M1 => wp_X2_isKept a0 M1 (fun x2 M3 => (am_rg x2) ∧ (x2 = 0 → wp_X0_remember M3 (fun M4 => (0 ≤ (a0 : Int) ∧ (a0 : Int) < 60) ∧ (wp_X2_keptPoints (am_up M4 4 a0 1) (fun x5 M6 => Q x5 M6)))) ∧ (¬ x2 = 0 → X 1 M3))) X
set_option maxRecDepth 20000 in
theorem tm_X5_keep {a0 : Int} {M : am_M} {Q : Int → am_M → Prop} {X : am_X} (h : wp_X5_keep a0 M Q X) : am_CC 7 87 [.inr (.inl (some 0)), .inl (a0)] M (am_QI Q) X := by
  refine ⟨Nat.le_of_ble_eq_true rfl, ?_⟩
  show am_W (am_CC 6) dt_X5_keep 6 0 none (am_QI Q) (am_qx 87 X) (0, 0, [(0, .inr (.inl (some 0))), (1, .inl (a0))], [], M)
  have hX : ∀ E M, X E M → am_qx 87 X E M := fun E M q => ⟨⟨rfl, by decide⟩, q⟩
  refine am_Wrun 2 (ps := []) (pc' := 2) (lv' := [(0, .inr (.inl (some 0))), (1, .inl (a0))]) (st' := [.inl (a0), .inr (.inl (some 0))]) (M' := M) rfl trivial ?_
  refine am_WcallV (y := 44) (n := 2) (a := 0) (f := 5) (as := [.inl (a0)]) (st' := []) rfl rfl rfl rfl rfl rfl rfl rfl rfl rfl (Nat.zero_le _) rfl (am_CC_le (Nat.le_of_ble_eq_true rfl) (tm_X5_refuseNoPoint h)) (fun r M1 q => ?_) (fun E M q => hX _ _ q)
  obtain ⟨rfl, h⟩ := q
  refine am_Wrun 3 (ps := []) (pc' := 10) (lv' := [(0, .inr (.inl (some 0))), (1, .inl (a0))]) (st' := [.inl (a0), .inr (.inl (some 1))]) (M' := M1) rfl trivial ?_
  refine am_WcallV (y := 8) (n := 2) (a := 1) (f := 13) (as := [.inl (a0)]) (st' := []) rfl rfl rfl rfl rfl rfl rfl rfl rfl rfl (Nat.zero_le _) rfl (am_CC_le (Nat.le_of_ble_eq_true rfl) (tm_X2_isKept h)) (fun r M3 q => ?_) (fun _ _ q => q.elim)
  obtain ⟨x2, rfl, h⟩ := q
  obtain ⟨b0, ht, hf⟩ := h
  refine am_Wbr (P := [am_rg x2]) (c := x2 = 0) (t := 26) (f := 16) (st' := []) rfl rfl ⟨b0, trivial⟩ rfl (fun q => ?_) (fun q => ?_)
  · have h := ht q
    refine am_Wrun 4 (ps := []) (pc' := 34) (lv' := [(0, .inr (.inl (some 0))), (1, .inl (a0))]) (st' := [.inr (.inl (some 1)), .inr (.inl (some 14))]) (M' := M3) rfl trivial ?_
    refine am_WcallV (y := 1) (n := 2) (a := 14) (f := 37) (as := [.inr (.inl (some 1))]) (st' := []) rfl rfl rfl rfl rfl rfl rfl rfl rfl rfl (Nat.zero_le _) rfl (am_CC_le (Nat.le_of_ble_eq_true rfl) (tm_X0_remember h)) (fun r M4 q => ?_) (fun _ _ q => q.elim)
    obtain ⟨rfl, h⟩ := q
    obtain ⟨c0_0, h⟩ := h
    refine am_Wrun 8 (ps := [0 ≤ (a0 : Int) ∧ (a0 : Int) < 60]) (pc' := 51) (lv' := [(0, .inr (.inl (some 0))), (1, .inl (a0))]) (st' := [.inr (.inl (some 1))]) (M' := (am_up M4 4 a0 1)) rfl ⟨c0_0, trivial⟩ ?_
    refine am_WcallV (y := 5) (n := 1) (a := 1) (f := 54) (as := []) (st' := []) rfl rfl rfl rfl rfl rfl rfl rfl rfl rfl (Nat.zero_le _) rfl (am_CC_le (Nat.le_of_ble_eq_true rfl) (tm_X2_keptPoints h)) (fun r M6 q => ?_) (fun _ _ q => q.elim)
    obtain ⟨x5, rfl, h⟩ := q
    exact am_Wreti rfl rfl h
  · have h := hf q
    exact am_Wthr (is := 113) (ic := 77) (E := 1) rfl (Nat.le_of_ble_eq_true rfl) rfl rfl rfl rfl (Or.inl ⟨rfl, rfl, rfl⟩) (hX _ _ h)
abbrev dt_L_keep : am_D := (tk_L_keep, 9, 4, some .int, tb_hn 202)
def wp_L_keep (a1 : Int) (M : am_M) (Q : Int → am_M → Prop) : Prop := wp_X5_keep a1 M (fun x1 M2 => (am_rg x1) ∧ (Q 0 (am_up M2 80 0 x1))) (fun E M3 => (E = 2 ∧ Q 1 M3) ∨ (E = 1 ∧ Q 2 M3))
set_option maxRecDepth 20000 in
theorem tm_L_keep {a1 : Int} {M : am_M} {Q : Int → am_M → Prop} (h : wp_L_keep a1 M Q) : am_CC 8 202 [.inr (.inl (some 0)), .inl (a1), .inr (.inl (some 80))] M (am_QI Q) (fun _ _ => False) := by
  refine ⟨Nat.le_of_ble_eq_true rfl, ?_⟩
  show am_W (am_CC 7) dt_L_keep 7 1 none (am_QI Q) (am_qx 202 (fun _ _ => False)) (0, 0, [(0, .inr (.inl (some 0))), (1, .inl (a1)), (2, .inr (.inl (some 80)))], [], M)
  refine am_Wrun 4 (ps := []) (pc' := 4) (lv' := [(0, .inr (.inl (some 0))), (1, .inl (a1)), (2, .inr (.inl (some 80)))]) (st' := [.inl (a1), .inr (.inl (some 0)), .inl (0), .inr (.inl (some 80))]) (M' := M) rfl trivial ?_
  refine am_WcallV (y := 87) (n := 2) (a := 0) (f := 7) (as := [.inl (a1)]) (st' := [.inl (0), .inr (.inl (some 80))]) rfl rfl rfl rfl rfl rfl rfl rfl rfl rfl (Nat.zero_le _) rfl (am_CC_le (Nat.le_of_ble_eq_true rfl) (tm_X5_keep h)) (fun r M2 q => ?_) (fun E M3 q => ?_)
  · obtain ⟨x1, rfl, h⟩ := q
    obtain ⟨c0_0, h⟩ := h
    refine am_Wrun 4 (ps := [am_rg x1, 0 ≤ (0 : Int) ∧ (0 : Int) < 1]) (pc' := 19) (lv' := [(0, .inr (.inl (some 0))), (1, .inl (a1)), (2, .inr (.inl (some 80)))]) (st' := [.inl (0)]) (M' := (am_up M2 80 0 x1)) rfl ⟨c0_0, ⟨by decide, by decide⟩, trivial⟩ ?_
    exact am_Wreti rfl rfl h
  · rcases q with ⟨rfl, h⟩ | ⟨rfl, h⟩
    · show 0 + 1 ≤ 1 ∧ am_W (am_CC 7) dt_L_keep 7 1 none (am_QI Q) _ (0 + 1, 13, [(0, .inr (.inl (some 0))), (1, .inl (a1)), (2, .inr (.inl (some 80)))], [], M3)
      refine ⟨Nat.le_refl _, ?_⟩
      refine am_Wrun 1 (ps := []) (pc' := 14) (lv' := [(0, .inr (.inl (some 0))), (1, .inl (a1)), (2, .inr (.inl (some 80)))]) (st' := [.inl (1)]) (M' := M3) rfl trivial ?_
      exact am_Wreti rfl rfl h
    · show 0 + 1 ≤ 1 ∧ am_W (am_CC 7) dt_L_keep 7 1 none (am_QI Q) _ (0 + 1, 16, [(0, .inr (.inl (some 0))), (1, .inl (a1)), (2, .inr (.inl (some 80)))], [], M3)
      refine ⟨Nat.le_refl _, ?_⟩
      refine am_Wrun 1 (ps := []) (pc' := 17) (lv' := [(0, .inr (.inl (some 0))), (1, .inl (a1)), (2, .inr (.inl (some 80)))]) (st' := [.inl (2)]) (M' := M3) rfl trivial ?_
      exact am_Wreti rfl rfl h
abbrev dt_X6_keep : am_D := (tk_X6_keep, 6, 2, some .int, tb_hn 136)
def wp_X6_keep (a0 : Int) (M : am_M) (Q : Int → am_M → Prop) : Prop := wp_X6_isPoint a0 (am_up M 69 5 0) (fun x1 M2 => (am_rg x1) ∧ (¬ x1 = 0 → wp_X6_isKept a0 M2 (fun x3 M4 => (am_rg x3) ∧ (x3 = 0 → wp_X6_keeps a0 1 M4 (fun x5 M6 => Q x5 M6)) ∧ (¬ x3 = 0 → wp_X6_fails 2 M4 (fun x7 M8 => Q x7 M8)))) ∧ (¬ (¬ x1 = 0) → wp_X6_fails 1 M2 (fun x9 M10 => Q x9 M10)))
set_option maxRecDepth 20000 in
theorem tm_X6_keep {a0 : Int} {M : am_M} {Q : Int → am_M → Prop} (h : wp_X6_keep a0 M Q) : am_CC 3 136 [.inr (.inl (some 69)), .inl (a0)] M (am_QI Q) (fun _ _ => False) := by
  refine ⟨Nat.le_of_ble_eq_true rfl, ?_⟩
  show am_W (am_CC 2) dt_X6_keep 2 0 none (am_QI Q) (am_qx 136 (fun _ _ => False)) (0, 0, [(0, .inr (.inl (some 69))), (1, .inl (a0))], [], M)
  refine am_Wrun 5 (ps := []) (pc' := 7) (lv' := [(0, .inr (.inl (some 69))), (1, .inl (a0))]) (st' := [.inl (a0), .inr (.inl (some 69))]) (M' := (am_up M 69 5 0)) rfl trivial ?_
  refine am_WcallV (y := 119) (n := 2) (a := 69) (f := 10) (as := [.inl (a0)]) (st' := []) rfl rfl rfl rfl rfl rfl rfl rfl rfl rfl (Nat.zero_le _) rfl (am_CC_le (Nat.le_of_ble_eq_true rfl) (tm_X6_isPoint h)) (fun r M2 q => ?_) (fun _ _ q => q.elim)
  obtain ⟨x1, rfl, h⟩ := q
  obtain ⟨b0, ht, hf⟩ := h
  refine am_Wbr (P := [am_rg x1]) (c := ¬ x1 = 0) (t := 19) (f := 13) (st' := []) rfl rfl ⟨b0, trivial⟩ rfl (fun q => ?_) (fun q => ?_)
  · have h := ht q
    refine am_Wrun 2 (ps := []) (pc' := 21) (lv' := [(0, .inr (.inl (some 69))), (1, .inl (a0))]) (st' := [.inl (a0), .inr (.inl (some 69))]) (M' := M2) rfl trivial ?_
    refine am_WcallV (y := 123) (n := 2) (a := 69) (f := 24) (as := [.inl (a0)]) (st' := []) rfl rfl rfl rfl rfl rfl rfl rfl rfl rfl (Nat.zero_le _) rfl (am_CC_le (Nat.le_of_ble_eq_true rfl) (tm_X6_isKept h)) (fun r M4 q => ?_) (fun _ _ q => q.elim)
    obtain ⟨x3, rfl, h⟩ := q
    obtain ⟨b0, ht, hf⟩ := h
    refine am_Wbr (P := [am_rg x3]) (c := x3 = 0) (t := 35) (f := 27) (st' := []) rfl rfl ⟨b0, trivial⟩ rfl (fun q => ?_) (fun q => ?_)
    · have h := ht q
      refine am_Wrun 3 (ps := []) (pc' := 38) (lv' := [(0, .inr (.inl (some 69))), (1, .inl (a0))]) (st' := [.inl (1), .inl (a0), .inr (.inl (some 69))]) (M' := M4) rfl trivial ?_
      refine am_WcallV (y := 134) (n := 3) (a := 69) (f := 41) (as := [.inl (a0), .inl (1)]) (st' := []) rfl rfl rfl rfl rfl rfl rfl rfl rfl rfl (Nat.zero_le _) rfl (am_CC_le (Nat.le_of_ble_eq_true rfl) (tm_X6_keeps h)) (fun r M6 q => ?_) (fun _ _ q => q.elim)
      obtain ⟨x5, rfl, h⟩ := q
      exact am_Wreti rfl rfl h
    · have h := hf q
      refine am_Wrun 2 (ps := []) (pc' := 29) (lv' := [(0, .inr (.inl (some 69))), (1, .inl (a0))]) (st' := [.inl (2), .inr (.inl (some 69))]) (M' := M4) rfl trivial ?_
      refine am_WcallV (y := 113) (n := 2) (a := 69) (f := 32) (as := [.inl (2)]) (st' := []) rfl rfl rfl rfl rfl rfl rfl rfl rfl rfl (Nat.zero_le _) rfl (am_CC_le (Nat.le_of_ble_eq_true rfl) (tm_X6_fails h)) (fun r M8 q => ?_) (fun _ _ q => q.elim)
      obtain ⟨x7, rfl, h⟩ := q
      refine am_Wrun 1 (ps := []) (pc' := 41) (lv' := [(0, .inr (.inl (some 69))), (1, .inl (a0))]) (st' := [.inl (x7)]) (M' := M8) rfl trivial ?_
      exact am_Wreti rfl rfl h
  · have h := hf q
    refine am_Wrun 2 (ps := []) (pc' := 15) (lv' := [(0, .inr (.inl (some 69))), (1, .inl (a0))]) (st' := [.inl (1), .inr (.inl (some 69))]) (M' := M2) rfl trivial ?_
    refine am_WcallV (y := 113) (n := 2) (a := 69) (f := 18) (as := [.inl (1)]) (st' := []) rfl rfl rfl rfl rfl rfl rfl rfl rfl rfl (Nat.zero_le _) rfl (am_CC_le (Nat.le_of_ble_eq_true rfl) (tm_X6_fails h)) (fun r M10 q => ?_) (fun _ _ q => q.elim)
    obtain ⟨x9, rfl, h⟩ := q
    exact am_Wreti rfl rfl h
abbrev dt_X1_findMiss : am_D := (tk_X1_findMiss, 1, 7, some .boolean, tb_hn 15)
def wj_X1_findMiss_125 (Q : Int → am_M → Prop) (v1 : Int) (v3 : Int) (v5 : Int) (v6 : Int) (s0 : Int) (M : am_M) : Prop := (0 ≤ (v3 : Int) ∧ (v3 : Int) < 60) ∧ (0 ≤ (v1 : Int) ∧ (v1 : Int) < 60) ∧ (am_rg ((v6 * ((am_up M 9 2 s0) 9 2)) - (v5 * (((am_up M 9 2 s0) 2 v3) - ((am_up M 9 2 s0) 2 v1))))) ∧ (Q 1 (am_up (am_up M 9 2 s0) 9 1 (if 0 ≤ ((v6 * ((am_up M 9 2 s0) 9 2)) - (v5 * (((am_up M 9 2 s0) 2 v3) - ((am_up M 9 2 s0) 2 v1)))) then ((v6 * ((am_up M 9 2 s0) 9 2)) - (v5 * (((am_up M 9 2 s0) 2 v3) - ((am_up M 9 2 s0) 2 v1)))) else 0 - ((v6 * ((am_up M 9 2 s0) 9 2)) - (v5 * (((am_up M 9 2 s0) 2 v3) - ((am_up M 9 2 s0) 2 v1)))))))
def wj_X1_findMiss_73 (Q : Int → am_M → Prop) (v1 : Int) (v2 : Int) (v3 : Int) (v4 : Int) (s0 : Int) (M : am_M) : Prop := (0 ≤ (v3 : Int) ∧ (v3 : Int) < 60) ∧ (0 ≤ (v1 : Int) ∧ (v1 : Int) < 60) ∧ ((am_rg v4) ∧ (v4 = 0 → (0 ≤ (v2 : Int) ∧ (v2 : Int) < 60) ∧ (0 ≤ (v1 : Int) ∧ (v1 : Int) < 60) ∧ (wj_X1_findMiss_125 Q v1 v3 s0 ((M 3 v3) - (M 3 v1)) ((M 2 v2) - (M 2 v1)) M)) ∧ (¬ v4 = 0 → wj_X1_findMiss_125 Q v1 v3 s0 ((M 3 v3) - (M 3 v1)) 1 M))
def wp_X1_findMiss (a0 : Int) (a1 : Int) (a2 : Int) (M : am_M) (Q : Int → am_M → Prop) : Prop := wp_X2_sameStretch a0 a1 (am_up (am_up M 9 1 0) 9 2 1) (fun x1 M2 => (am_rg x1) ∧ (x1 = 0 → Q 0 M2) ∧ (¬ x1 = 0 → wp_X2_sameStretch a0 a2 M2 (fun x3 M4 => (am_rg x3) ∧ (¬ x3 = 0 → wp_X2_isStep M4 (fun x5 M6 => (am_rg x5) ∧ (x5 = 0 → (0 ≤ (a1 : Int) ∧ (a1 : Int) < 60) ∧ (0 ≤ (a0 : Int) ∧ (a0 : Int) < 60) ∧ (wj_X1_findMiss_73 Q a0 a1 a2 x5 ((M6 3 a1) - (M6 3 a0)) M6)) ∧ (¬ x5 = 0 → wj_X1_findMiss_73 Q a0 a1 a2 x5 0 M6))) ∧ (¬ (¬ x3 = 0) → Q 0 M4))))
set_option maxRecDepth 20000 in
theorem tj_X1_findMiss_125 {Q : Int → am_M → Prop} {QX : am_X} (v1 : Int) (v3 : Int) (v5 : Int) (v6 : Int) (s0 : Int) (M : am_M) (h : wj_X1_findMiss_125 Q v1 v3 v5 v6 s0 M) : am_W (am_CC 1) dt_X1_findMiss 1 0 none (am_QI Q) QX (0, 125, [(0, .inr (.inl (some 9))), (1, .inl (v1)), (3, .inl (v3)), (5, .inl (v5)), (6, .inl (v6))], [.inl (s0), .inr (.inl (some 9))], M) := by
  obtain ⟨c0_0, c1_0, c2_0, h⟩ := h
  refine am_Wrun 23 (ps := [0 ≤ (v3 : Int) ∧ (v3 : Int) < 60, 0 ≤ (v1 : Int) ∧ (v1 : Int) < 60, am_rg ((v6 * ((am_up M 9 2 s0) 9 2)) - (v5 * (((am_up M 9 2 s0) 2 v3) - ((am_up M 9 2 s0) 2 v1)))) ∧ am_cs [.inr (.inl (some 9))] ≤ 8]) (pc' := 166) (lv' := [(0, .inr (.inl (some 9))), (1, .inl (v1)), (3, .inl (v3)), (5, .inl (v5)), (6, .inl (v6))]) (st' := [.inl (1)]) (M' := (am_up (am_up M 9 2 s0) 9 1 (if 0 ≤ ((v6 * ((am_up M 9 2 s0) 9 2)) - (v5 * (((am_up M 9 2 s0) 2 v3) - ((am_up M 9 2 s0) 2 v1)))) then ((v6 * ((am_up M 9 2 s0) 9 2)) - (v5 * (((am_up M 9 2 s0) 2 v3) - ((am_up M 9 2 s0) 2 v1)))) else 0 - ((v6 * ((am_up M 9 2 s0) 9 2)) - (v5 * (((am_up M 9 2 s0) 2 v3) - ((am_up M 9 2 s0) 2 v1))))))) rfl ⟨c0_0, c1_0, ⟨c2_0, (by decide)⟩, trivial⟩ ?_
  exact am_Wretz rfl rfl (Or.inr rfl) h
set_option maxRecDepth 20000 in
theorem tj_X1_findMiss_73 {Q : Int → am_M → Prop} {QX : am_X} (v1 : Int) (v2 : Int) (v3 : Int) (v4 : Int) (s0 : Int) (M : am_M) (h : wj_X1_findMiss_73 Q v1 v2 v3 v4 s0 M) : am_W (am_CC 1) dt_X1_findMiss 1 0 none (am_QI Q) QX (0, 73, [(0, .inr (.inl (some 9))), (1, .inl (v1)), (2, .inl (v2)), (3, .inl (v3)), (4, .inl (v4))], [.inl (s0)], M) := by
  obtain ⟨c0_0, c1_0, h⟩ := h
  refine am_Wrun 15 (ps := [0 ≤ (v3 : Int) ∧ (v3 : Int) < 60, 0 ≤ (v1 : Int) ∧ (v1 : Int) < 60]) (pc' := 99) (lv' := [(6, .inl ((M 3 v3) - (M 3 v1))), (5, .inl (s0)), (0, .inr (.inl (some 9))), (1, .inl (v1)), (2, .inl (v2)), (3, .inl (v3)), (4, .inl (v4))]) (st' := [.inl (v4), .inr (.inl (some 9))]) (M' := M) rfl ⟨c0_0, c1_0, trivial⟩ ?_
  obtain ⟨b0, ht, hf⟩ := h
  refine am_Wbr (P := [am_rg v4]) (c := v4 = 0) (t := 106) (f := 102) (st' := [.inr (.inl (some 9))]) rfl rfl ⟨b0, trivial⟩ rfl (fun q => ?_) (fun q => ?_)
  · have h := ht q
    obtain ⟨c0_0, c1_0, h⟩ := h
    refine am_Wrun 11 (ps := [0 ≤ (v2 : Int) ∧ (v2 : Int) < 60, 0 ≤ (v1 : Int) ∧ (v1 : Int) < 60]) (pc' := 125) (lv' := [(6, .inl ((M 3 v3) - (M 3 v1))), (5, .inl (s0)), (0, .inr (.inl (some 9))), (1, .inl (v1)), (2, .inl (v2)), (3, .inl (v3)), (4, .inl (v4))]) (st' := [.inl ((M 2 v2) - (M 2 v1)), .inr (.inl (some 9))]) (M' := M) rfl ⟨c0_0, c1_0, trivial⟩ ?_
    refine am_W_sub [2, 3, 5, 1, 0] rfl ?_
    exact tj_X1_findMiss_125 v1 v3 s0 ((M 3 v3) - (M 3 v1)) ((M 2 v2) - (M 2 v1)) M h
  · have h := hf q
    refine am_Wrun 2 (ps := []) (pc' := 125) (lv' := [(6, .inl ((M 3 v3) - (M 3 v1))), (5, .inl (s0)), (0, .inr (.inl (some 9))), (1, .inl (v1)), (2, .inl (v2)), (3, .inl (v3)), (4, .inl (v4))]) (st' := [.inl (1), .inr (.inl (some 9))]) (M' := M) rfl trivial ?_
    refine am_W_sub [2, 3, 5, 1, 0] rfl ?_
    exact tj_X1_findMiss_125 v1 v3 s0 ((M 3 v3) - (M 3 v1)) 1 M h
set_option maxRecDepth 20000 in
theorem tm_X1_findMiss {a0 a1 a2 : Int} {M : am_M} {Q : Int → am_M → Prop} (h : wp_X1_findMiss a0 a1 a2 M Q) : am_CC 2 15 [.inr (.inl (some 9)), .inl (a0), .inl (a1), .inl (a2)] M (am_QI Q) (fun _ _ => False) := by
  refine ⟨Nat.le_of_ble_eq_true rfl, ?_⟩
  show am_W (am_CC 1) dt_X1_findMiss 1 0 none (am_QI Q) (am_qx 15 (fun _ _ => False)) (0, 0, [(0, .inr (.inl (some 9))), (1, .inl (a0)), (2, .inl (a1)), (3, .inl (a2))], [], M)
  refine am_Wrun 10 (ps := []) (pc' := 16) (lv' := [(0, .inr (.inl (some 9))), (1, .inl (a0)), (2, .inl (a1)), (3, .inl (a2))]) (st' := [.inl (a1), .inl (a0), .inr (.inl (some 1))]) (M' := (am_up (am_up M 9 1 0) 9 2 1)) rfl trivial ?_
  refine am_WcallV (y := 12) (n := 3) (a := 1) (f := 19) (as := [.inl (a0), .inl (a1)]) (st' := []) rfl rfl rfl rfl rfl rfl rfl rfl rfl rfl (Nat.zero_le _) rfl (am_CC_le (Nat.le_of_ble_eq_true rfl) (tm_X2_sameStretch h)) (fun r M2 q => ?_) (fun _ _ q => q.elim)
  obtain ⟨x1, rfl, h⟩ := q
  obtain ⟨b0, ht, hf⟩ := h
  refine am_Wbr (P := [am_rg x1]) (c := x1 = 0) (t := 34) (f := 22) (st' := []) rfl rfl ⟨b0, trivial⟩ rfl (fun q => ?_) (fun q => ?_)
  · have h := ht q
    refine am_Wrun 1 (ps := []) (pc' := 35) (lv' := [(0, .inr (.inl (some 9))), (1, .inl (a0)), (2, .inl (a1)), (3, .inl (a2))]) (st' := [.inl (0)]) (M' := M2) rfl trivial ?_
    exact am_Wretz rfl rfl (Or.inl rfl) h
  · have h := hf q
    refine am_Wrun 4 (ps := []) (pc' := 28) (lv' := [(0, .inr (.inl (some 9))), (1, .inl (a0)), (2, .inl (a1)), (3, .inl (a2))]) (st' := [.inl (a2), .inl (a0), .inr (.inl (some 1))]) (M' := M2) rfl trivial ?_
    refine am_WcallV (y := 12) (n := 3) (a := 1) (f := 31) (as := [.inl (a0), .inl (a2)]) (st' := []) rfl rfl rfl rfl rfl rfl rfl rfl rfl rfl (Nat.zero_le _) rfl (am_CC_le (Nat.le_of_ble_eq_true rfl) (tm_X2_sameStretch h)) (fun r M4 q => ?_) (fun _ _ q => q.elim)
    obtain ⟨x3, rfl, h⟩ := q
    obtain ⟨b0, ht, hf⟩ := h
    refine am_Wbr (P := [am_rg x3]) (c := ¬ x3 = 0) (t := 36) (f := 34) (st' := []) rfl rfl ⟨b0, trivial⟩ rfl (fun q => ?_) (fun q => ?_)
    · have h := ht q
      refine am_Wrun 2 (ps := []) (pc' := 40) (lv' := [(0, .inr (.inl (some 9))), (1, .inl (a0)), (2, .inl (a1)), (3, .inl (a2))]) (st' := [.inr (.inl (some 1))]) (M' := M4) rfl trivial ?_
      refine am_WcallV (y := 16) (n := 1) (a := 1) (f := 43) (as := []) (st' := []) rfl rfl rfl rfl rfl rfl rfl rfl rfl rfl (Nat.zero_le _) rfl (am_CC_le (Nat.le_of_ble_eq_true rfl) (tm_X2_isStep h)) (fun r M6 q => ?_) (fun _ _ q => q.elim)
      obtain ⟨x5, rfl, h⟩ := q
      refine am_Wrun 2 (ps := []) (pc' := 47) (lv' := [(4, .inl (x5)), (0, .inr (.inl (some 9))), (1, .inl (a0)), (2, .inl (a1)), (3, .inl (a2))]) (st' := [.inl (x5)]) (M' := M6) rfl trivial ?_
      obtain ⟨b0, ht, hf⟩ := h
      refine am_Wbr (P := [am_rg x5]) (c := x5 = 0) (t := 54) (f := 50) (st' := []) rfl rfl ⟨b0, trivial⟩ rfl (fun q => ?_) (fun q => ?_)
      · have h := ht q
        obtain ⟨c0_0, c1_0, h⟩ := h
        refine am_Wrun 11 (ps := [0 ≤ (a1 : Int) ∧ (a1 : Int) < 60, 0 ≤ (a0 : Int) ∧ (a0 : Int) < 60]) (pc' := 73) (lv' := [(4, .inl (x5)), (0, .inr (.inl (some 9))), (1, .inl (a0)), (2, .inl (a1)), (3, .inl (a2))]) (st' := [.inl ((M6 3 a1) - (M6 3 a0))]) (M' := M6) rfl ⟨c0_0, c1_0, trivial⟩ ?_
        refine am_W_sub [1, 2, 3, 4, 0] rfl ?_
        exact tj_X1_findMiss_73 a0 a1 a2 x5 ((M6 3 a1) - (M6 3 a0)) M6 h
      · have h := hf q
        refine am_Wrun 2 (ps := []) (pc' := 73) (lv' := [(4, .inl (x5)), (0, .inr (.inl (some 9))), (1, .inl (a0)), (2, .inl (a1)), (3, .inl (a2))]) (st' := [.inl (0)]) (M' := M6) rfl trivial ?_
        refine am_W_sub [1, 2, 3, 4, 0] rfl ?_
        exact tj_X1_findMiss_73 a0 a1 a2 x5 0 M6 h
    · have h := hf q
      refine am_Wrun 1 (ps := []) (pc' := 35) (lv' := [(0, .inr (.inl (some 9))), (1, .inl (a0)), (2, .inl (a1)), (3, .inl (a2))]) (st' := [.inl (0)]) (M' := M4) rfl trivial ?_
      exact am_Wretz rfl rfl (Or.inl rfl) h
abbrev dt_X1_isBroken : am_D := (tk_X1_isBroken, 1, 3, some .boolean, tb_hn 7)
def wp_X1_isBroken (a0 : Int) (M : am_M) (Q : Int → am_M → Prop) : Prop := wp_X2_isKept a0 M (fun x1 M2 => (am_rg x1) ∧ (x1 = 0 → wp_X2_earlierKept a0 M2 (fun x3 M4 => wp_X2_laterKept a0 M4 (fun x5 M6 => wp_X1_findMiss x3 x5 a0 M6 (fun x7 M8 => (am_rg x7) ∧ (x7 = 0 → Q 1 M8) ∧ (¬ x7 = 0 → (am_rg (M8 9 1)) ∧ (am_rg ((M8 6 0) * (M8 9 2))) ∧ ((M8 9 1) ≤ ((M8 6 0) * (M8 9 2)) → Q 0 M8) ∧ (¬ (M8 9 1) ≤ ((M8 6 0) * (M8 9 2)) → Q 1 M8)))))) ∧ (¬ x1 = 0 → Q 0 M2))
set_option maxRecDepth 20000 in
theorem tm_X1_isBroken {a0 : Int} {M : am_M} {Q : Int → am_M → Prop} (h : wp_X1_isBroken a0 M Q) : am_CC 3 7 [.inr (.inl (some 9)), .inl (a0)] M (am_QI Q) (fun _ _ => False) := by
  refine ⟨Nat.le_of_ble_eq_true rfl, ?_⟩
  show am_W (am_CC 2) dt_X1_isBroken 2 0 none (am_QI Q) (am_qx 7 (fun _ _ => False)) (0, 0, [(0, .inr (.inl (some 9))), (1, .inl (a0))], [], M)
  refine am_Wrun 3 (ps := []) (pc' := 5) (lv' := [(0, .inr (.inl (some 9))), (1, .inl (a0))]) (st' := [.inl (a0), .inr (.inl (some 1))]) (M' := M) rfl trivial ?_
  refine am_WcallV (y := 8) (n := 2) (a := 1) (f := 8) (as := [.inl (a0)]) (st' := []) rfl rfl rfl rfl rfl rfl rfl rfl rfl rfl (Nat.zero_le _) rfl (am_CC_le (Nat.le_of_ble_eq_true rfl) (tm_X2_isKept h)) (fun r M2 q => ?_) (fun _ _ q => q.elim)
  obtain ⟨x1, rfl, h⟩ := q
  obtain ⟨b0, ht, hf⟩ := h
  refine am_Wbr (P := [am_rg x1]) (c := x1 = 0) (t := 13) (f := 11) (st' := []) rfl rfl ⟨b0, trivial⟩ rfl (fun q => ?_) (fun q => ?_)
  · have h := ht q
    refine am_Wrun 4 (ps := []) (pc' := 19) (lv' := [(0, .inr (.inl (some 9))), (1, .inl (a0))]) (st' := [.inl (a0), .inr (.inl (some 1)), .inr (.inl (some 9))]) (M' := M2) rfl trivial ?_
    refine am_WcallV (y := 10) (n := 2) (a := 1) (f := 22) (as := [.inl (a0)]) (st' := [.inr (.inl (some 9))]) rfl rfl rfl rfl rfl rfl rfl rfl rfl rfl (Nat.zero_le _) rfl (am_CC_le (Nat.le_of_ble_eq_true rfl) (tm_X2_earlierKept h)) (fun r M4 q => ?_) (fun _ _ q => q.elim)
    obtain ⟨x3, rfl, h⟩ := q
    refine am_Wrun 3 (ps := []) (pc' := 27) (lv' := [(0, .inr (.inl (some 9))), (1, .inl (a0))]) (st' := [.inl (a0), .inr (.inl (some 1)), .inl (x3), .inr (.inl (some 9))]) (M' := M4) rfl trivial ?_
    refine am_WcallV (y := 13) (n := 2) (a := 1) (f := 30) (as := [.inl (a0)]) (st' := [.inl (x3), .inr (.inl (some 9))]) rfl rfl rfl rfl rfl rfl rfl rfl rfl rfl (Nat.zero_le _) rfl (am_CC_le (Nat.le_of_ble_eq_true rfl) (tm_X2_laterKept h)) (fun r M6 q => ?_) (fun _ _ q => q.elim)
    obtain ⟨x5, rfl, h⟩ := q
    refine am_Wrun 1 (ps := []) (pc' := 31) (lv' := [(0, .inr (.inl (some 9))), (1, .inl (a0))]) (st' := [.inl (a0), .inl (x5), .inl (x3), .inr (.inl (some 9))]) (M' := M6) rfl trivial ?_
    refine am_WcallV (y := 15) (n := 4) (a := 9) (f := 34) (as := [.inl (x3), .inl (x5), .inl (a0)]) (st' := []) rfl rfl rfl rfl rfl rfl rfl rfl rfl rfl (Nat.zero_le _) rfl (am_CC_le (Nat.le_of_ble_eq_true rfl) (tm_X1_findMiss h)) (fun r M8 q => ?_) (fun _ _ q => q.elim)
    obtain ⟨x7, rfl, h⟩ := q
    refine am_Wrun 2 (ps := []) (pc' := 36) (lv' := [(2, .inl (x7)), (0, .inr (.inl (some 9))), (1, .inl (a0))]) (st' := [.inl (x7)]) (M' := M8) rfl trivial ?_
    obtain ⟨b0, ht, hf⟩ := h
    refine am_Wbr (P := [am_rg x7]) (c := x7 = 0) (t := 60) (f := 39) (st' := []) rfl rfl ⟨b0, trivial⟩ rfl (fun q => ?_) (fun q => ?_)
    · have h := ht q
      refine am_Wrun 2 (ps := []) (pc' := 65) (lv' := [(2, .inl (x7)), (0, .inr (.inl (some 9))), (1, .inl (a0))]) (st' := [.inl (1)]) (M' := M8) rfl trivial ?_
      exact am_Wretz rfl rfl (Or.inr rfl) h
    · have h := hf q
      refine am_Wrun 10 (ps := [0 ≤ (0 : Int) ∧ (0 : Int) < 3]) (pc' := 57) (lv' := [(2, .inl (x7)), (0, .inr (.inl (some 9))), (1, .inl (a0))]) (st' := [.inl ((M8 6 0) * (M8 9 2)), .inl (M8 9 1)]) (M' := M8) rfl ⟨⟨by decide, by decide⟩, trivial⟩ ?_
      obtain ⟨b0, b1, ht, hf⟩ := h
      refine am_Wbr (P := [am_rg (M8 9 1), am_rg ((M8 6 0) * (M8 9 2))]) (c := (M8 9 1) ≤ ((M8 6 0) * (M8 9 2))) (t := 64) (f := 60) (st' := []) rfl rfl ⟨b0, b1, trivial⟩ rfl (fun q => ?_) (fun q => ?_)
      · have h := ht q
        refine am_Wrun 1 (ps := []) (pc' := 65) (lv' := [(2, .inl (x7)), (0, .inr (.inl (some 9))), (1, .inl (a0))]) (st' := [.inl (0)]) (M' := M8) rfl trivial ?_
        exact am_Wretz rfl rfl (Or.inl rfl) h
      · have h := hf q
        refine am_Wrun 2 (ps := []) (pc' := 65) (lv' := [(2, .inl (x7)), (0, .inr (.inl (some 9))), (1, .inl (a0))]) (st' := [.inl (1)]) (M' := M8) rfl trivial ?_
        exact am_Wretz rfl rfl (Or.inr rfl) h
  · have h := hf q
    refine am_Wrun 1 (ps := []) (pc' := 12) (lv' := [(0, .inr (.inl (some 9))), (1, .inl (a0))]) (st' := [.inl (0)]) (M' := M2) rfl trivial ?_
    exact am_Wretz rfl rfl (Or.inl rfl) h
abbrev dt_X5_keepBroken : am_D := (tk_X5_keepBroken, 5, 3, some .int, tb_hn 6)
def wl_X5_keepBroken_45 (Q : Int → am_M → Prop) : Nat → Int → Int → am_M → Prop
  | 0, _, _, _ => False
  | n + 1, v1, v2, M => (am_rg v2) ∧ (am_rg (M 1 7)) ∧ ((M 1 7) ≤ v2 → Q v1 M) ∧ (¬ (M 1 7) ≤ v2 → (0 ≤ (v2 : Int) ∧ (v2 : Int) < 60) ∧ ((am_rg (M 68 v2)) ∧ (¬ (M 68 v2) = 1 → wl_X5_keepBroken_45 Q n v1 (v2 + 1) M) ∧ (¬ (¬ (M 68 v2) = 1) → (0 ≤ (v2 : Int) ∧ (v2 : Int) < 60) ∧ (wl_X5_keepBroken_45 Q n (v1 + 1) (v2 + 1) (am_up M 4 v2 1)))))
def wl_X5_keepBroken_2 (Q : Int → am_M → Prop) : Nat → Int → am_M → Prop
  | 0, _, _ => False
  | n + 1, v1, M => (am_rg v1) ∧ (am_rg (M 1 7)) ∧ ((M 1 7) ≤ v1 → ∃ e45, wl_X5_keepBroken_45 Q e45 0 0 M) ∧ (¬ (M 1 7) ≤ v1 → wp_X1_isBroken v1 M (fun x1 M2 => (am_rg x1) ∧ (x1 = 0 → (0 ≤ (v1 : Int) ∧ (v1 : Int) < 60) ∧ (wl_X5_keepBroken_2 Q n (v1 + 1) (am_up M2 68 v1 0))) ∧ (¬ x1 = 0 → (0 ≤ (v1 : Int) ∧ (v1 : Int) < 60) ∧ (wl_X5_keepBroken_2 Q n (v1 + 1) (am_up M2 68 v1 1)))))
def wp_X5_keepBroken (M : am_M) (Q : Int → am_M → Prop) : Prop := ∃ e2, wl_X5_keepBroken_2 Q e2 0 M
set_option maxRecDepth 20000 in
theorem tw_X5_keepBroken_45 {Q : Int → am_M → Prop} {QX : am_X} : ∀ (n : Nat) (v1 : Int) (v2 : Int) (M : am_M), wl_X5_keepBroken_45 Q n v1 v2 M → am_W (am_CC 3) dt_X5_keepBroken 3 0 none (am_QI Q) QX (0, 45, [(0, .inr (.inl (some 0))), (1, .inl (v1)), (2, .inl (v2))], [], M)
  | 0, _, _, _, h => h.elim
  | n + 1, v1, v2, M, h => by
    refine am_Wrun 4 (ps := []) (pc' := 53) (lv' := [(0, .inr (.inl (some 0))), (1, .inl (v1)), (2, .inl (v2))]) (st' := [.inl (M 1 7), .inl (v2)]) (M' := M) rfl trivial ?_
    obtain ⟨b0, b1, ht, hf⟩ := h
    refine am_Wbr (P := [am_rg v2, am_rg (M 1 7)]) (c := (M 1 7) ≤ v2) (t := 85) (f := 56) (st' := []) rfl rfl ⟨b0, b1, trivial⟩ rfl (fun q => ?_) (fun q => ?_)
    · have h := ht q
      refine am_Wrun 1 (ps := []) (pc' := 86) (lv' := [(0, .inr (.inl (some 0))), (1, .inl (v1)), (2, .inl (v2))]) (st' := [.inl (v1)]) (M' := M) rfl trivial ?_
      exact am_Wreti rfl rfl h
    · have h := hf q
      obtain ⟨c0_0, h⟩ := h
      refine am_Wrun 5 (ps := [0 ≤ (v2 : Int) ∧ (v2 : Int) < 60]) (pc' := 63) (lv' := [(0, .inr (.inl (some 0))), (1, .inl (v1)), (2, .inl (v2))]) (st' := [.inl (1), .inl (M 68 v2)]) (M' := M) rfl ⟨c0_0, trivial⟩ ?_
      obtain ⟨b0, ht, hf⟩ := h
      refine am_Wbr (P := [am_rg (M 68 v2), am_rg 1]) (c := ¬ (M 68 v2) = 1) (t := 79) (f := 66) (st' := []) rfl rfl ⟨b0, (am_rgd rfl), trivial⟩ rfl (fun q => ?_) (fun q => ?_)
      · have h := ht q
        refine am_Wrun 2 (ps := []) (pc' := 45) (lv' := [(2, .inl (v2 + 1)), (0, .inr (.inl (some 0))), (1, .inl (v1))]) (st' := []) (M' := M) rfl trivial ?_
        refine am_W_sub [1, 2, 0] rfl ?_
        exact tw_X5_keepBroken_45 n v1 (v2 + 1) M h
      · have h := hf q
        obtain ⟨c0_0, h⟩ := h
        refine am_Wrun 9 (ps := [0 ≤ (v2 : Int) ∧ (v2 : Int) < 60]) (pc' := 45) (lv' := [(2, .inl (v2 + 1)), (1, .inl (v1 + 1)), (0, .inr (.inl (some 0)))]) (st' := []) (M' := (am_up M 4 v2 1)) rfl ⟨c0_0, trivial⟩ ?_
        refine am_W_sub [2, 1, 0] rfl ?_
        exact tw_X5_keepBroken_45 n (v1 + 1) (v2 + 1) (am_up M 4 v2 1) h
set_option maxRecDepth 20000 in
theorem tw_X5_keepBroken_2 {Q : Int → am_M → Prop} {QX : am_X} : ∀ (n : Nat) (v1 : Int) (M : am_M), wl_X5_keepBroken_2 Q n v1 M → am_W (am_CC 3) dt_X5_keepBroken 3 0 none (am_QI Q) QX (0, 2, [(0, .inr (.inl (some 0))), (1, .inl (v1))], [], M)
  | 0, _, _, h => h.elim
  | n + 1, v1, M, h => by
    refine am_Wrun 4 (ps := []) (pc' := 10) (lv' := [(0, .inr (.inl (some 0))), (1, .inl (v1))]) (st' := [.inl (M 1 7), .inl (v1)]) (M' := M) rfl trivial ?_
    obtain ⟨b0, b1, ht, hf⟩ := h
    refine am_Wbr (P := [am_rg v1, am_rg (M 1 7)]) (c := (M 1 7) ≤ v1) (t := 41) (f := 13) (st' := []) rfl rfl ⟨b0, b1, trivial⟩ rfl (fun q => ?_) (fun q => ?_)
    · have h := ht q
      refine am_Wrun 4 (ps := []) (pc' := 45) (lv' := [(2, .inl (0)), (1, .inl (0)), (0, .inr (.inl (some 0)))]) (st' := []) (M' := M) rfl trivial ?_
      refine am_W_sub [2, 1, 0] rfl ?_
      obtain ⟨n45, h⟩ := h
      exact tw_X5_keepBroken_45 n45 0 0 M h
    · have h := hf q
      refine am_Wrun 6 (ps := []) (pc' := 23) (lv' := [(0, .inr (.inl (some 0))), (1, .inl (v1))]) (st' := [.inl (v1), .inr (.inl (some 9)), .inl (v1), .inr (.inl (some 68))]) (M' := M) rfl trivial ?_
      refine am_WcallV (y := 7) (n := 2) (a := 9) (f := 26) (as := [.inl (v1)]) (st' := [.inl (v1), .inr (.inl (some 68))]) rfl rfl rfl rfl rfl rfl rfl rfl rfl rfl (Nat.zero_le _) rfl (am_CC_le (Nat.le_of_ble_eq_true rfl) (tm_X1_isBroken h)) (fun r M2 q => ?_) (fun _ _ q => q.elim)
      obtain ⟨x1, rfl, h⟩ := q
      obtain ⟨b0, ht, hf⟩ := h
      refine am_Wbr (P := [am_rg x1]) (c := x1 = 0) (t := 33) (f := 29) (st' := [.inl (v1), .inr (.inl (some 68))]) rfl rfl ⟨b0, trivial⟩ rfl (fun q => ?_) (fun q => ?_)
      · have h := ht q
        obtain ⟨c0_0, h⟩ := h
        refine am_Wrun 4 (ps := [0 ≤ (v1 : Int) ∧ (v1 : Int) < 60]) (pc' := 2) (lv' := [(1, .inl (v1 + 1)), (0, .inr (.inl (some 0)))]) (st' := []) (M' := (am_up M2 68 v1 0)) rfl ⟨c0_0, trivial⟩ ?_
        refine am_W_sub [1, 0] rfl ?_
        exact tw_X5_keepBroken_2 n (v1 + 1) (am_up M2 68 v1 0) h
      · have h := hf q
        obtain ⟨c0_0, h⟩ := h
        refine am_Wrun 5 (ps := [0 ≤ (v1 : Int) ∧ (v1 : Int) < 60]) (pc' := 2) (lv' := [(1, .inl (v1 + 1)), (0, .inr (.inl (some 0)))]) (st' := []) (M' := (am_up M2 68 v1 1)) rfl ⟨c0_0, trivial⟩ ?_
        refine am_W_sub [1, 0] rfl ?_
        exact tw_X5_keepBroken_2 n (v1 + 1) (am_up M2 68 v1 1) h
set_option maxRecDepth 20000 in
theorem tm_X5_keepBroken {M : am_M} {Q : Int → am_M → Prop} (h : wp_X5_keepBroken M Q) : am_CC 4 6 [.inr (.inl (some 0))] M (am_QI Q) (fun _ _ => False) := by
  refine ⟨Nat.le_of_ble_eq_true rfl, ?_⟩
  show am_W (am_CC 3) dt_X5_keepBroken 3 0 none (am_QI Q) (am_qx 6 (fun _ _ => False)) (0, 0, [(0, .inr (.inl (some 0)))], [], M)
  refine am_Wrun 2 (ps := []) (pc' := 2) (lv' := [(1, .inl (0)), (0, .inr (.inl (some 0)))]) (st' := []) (M' := M) rfl trivial ?_
  refine am_W_sub [1, 0] rfl ?_
  obtain ⟨n2, h⟩ := h
  exact tw_X5_keepBroken_2 n2 0 M h
abbrev dt_X5_mend : am_D := (tk_X5_mend, 5, 3, some .int, tb_hn 0)
def wj_X5_mend_43 (Q : Int → am_M → Prop) (v1 : Int) (M : am_M) : Prop := wp_X2_keptPoints M (fun x4 M5 => Q (x4 - v1) M5)
def wl_X5_mend_21 (Q : Int → am_M → Prop) : Nat → Int → Int → am_M → Prop
  | 0, _, _, _ => False
  | n + 1, v1, v2, M => (am_rg v2) ∧ (60 ≤ v2 → wj_X5_mend_43 Q v1 M) ∧ (¬ 60 ≤ v2 → wp_X5_keepBroken M (fun x6 M7 => (am_rg x6) ∧ (¬ x6 = 0 → wl_X5_mend_21 Q n v1 (v2 + 1) M7) ∧ (¬ (¬ x6 = 0) → wj_X5_mend_43 Q v1 M7)))
def wp_X5_mend (M : am_M) (Q : Int → am_M → Prop) : Prop := wp_X0_remember M (fun M1 => wp_X2_keptPoints M1 (fun x2 M3 => ∃ e21, wl_X5_mend_21 Q e21 x2 0 M3))
set_option maxRecDepth 20000 in
theorem tj_X5_mend_43 {Q : Int → am_M → Prop} {QX : am_X} (v1 : Int) (M : am_M) (h : wj_X5_mend_43 Q v1 M) : am_W (am_CC 4) dt_X5_mend 4 0 none (am_QI Q) QX (0, 43, [(0, .inr (.inl (some 0))), (1, .inl (v1))], [], M) := by
  refine am_Wrun 2 (ps := []) (pc' := 47) (lv' := [(0, .inr (.inl (some 0))), (1, .inl (v1))]) (st' := [.inr (.inl (some 1))]) (M' := M) rfl trivial ?_
  refine am_WcallV (y := 5) (n := 1) (a := 1) (f := 50) (as := []) (st' := []) rfl rfl rfl rfl rfl rfl rfl rfl rfl rfl (Nat.zero_le _) rfl (am_CC_le (Nat.le_of_ble_eq_true rfl) (tm_X2_keptPoints h)) (fun r M5 q => ?_) (fun _ _ q => q.elim)
  obtain ⟨x4, rfl, h⟩ := q
  refine am_Wrun 2 (ps := []) (pc' := 52) (lv' := [(0, .inr (.inl (some 0))), (1, .inl (v1))]) (st' := [.inl (x4 - v1)]) (M' := M5) rfl trivial ?_
  exact am_Wreti rfl rfl h
set_option maxRecDepth 20000 in
theorem tw_X5_mend_21 {Q : Int → am_M → Prop} {QX : am_X} : ∀ (n : Nat) (v1 : Int) (v2 : Int) (M : am_M), wl_X5_mend_21 Q n v1 v2 M → am_W (am_CC 4) dt_X5_mend 4 0 none (am_QI Q) QX (0, 21, [(0, .inr (.inl (some 0))), (1, .inl (v1)), (2, .inl (v2))], [], M)
  | 0, _, _, _, h => h.elim
  | n + 1, v1, v2, M, h => by
    refine am_Wrun 2 (ps := [-128 ≤ (60 : Int) ∧ (60 : Int) ≤ 127]) (pc' := 24) (lv' := [(0, .inr (.inl (some 0))), (1, .inl (v1)), (2, .inl (v2))]) (st' := [.inl (60), .inl (v2)]) (M' := M) rfl ⟨⟨by decide, by decide⟩, trivial⟩ ?_
    obtain ⟨b0, ht, hf⟩ := h
    refine am_Wbr (P := [am_rg v2, am_rg 60]) (c := 60 ≤ v2) (t := 43) (f := 27) (st' := []) rfl rfl ⟨b0, (am_rgd rfl), trivial⟩ rfl (fun q => ?_) (fun q => ?_)
    · have h := ht q
      refine am_W_sub [0, 1] rfl ?_
      exact tj_X5_mend_43 v1 M h
    · have h := hf q
      refine am_Wrun 1 (ps := []) (pc' := 28) (lv' := [(0, .inr (.inl (some 0))), (1, .inl (v1)), (2, .inl (v2))]) (st' := [.inr (.inl (some 0))]) (M' := M) rfl trivial ?_
      refine am_WcallV (y := 6) (n := 1) (a := 0) (f := 31) (as := []) (st' := []) rfl rfl rfl rfl rfl rfl rfl rfl rfl rfl (Nat.zero_le _) rfl (am_CC_le (Nat.le_of_ble_eq_true rfl) (tm_X5_keepBroken h)) (fun r M7 q => ?_) (fun _ _ q => q.elim)
      obtain ⟨x6, rfl, h⟩ := q
      obtain ⟨b0, ht, hf⟩ := h
      refine am_Wbr (P := [am_rg x6]) (c := ¬ x6 = 0) (t := 37) (f := 34) (st' := []) rfl rfl ⟨b0, trivial⟩ rfl (fun q => ?_) (fun q => ?_)
      · have h := ht q
        refine am_Wrun 2 (ps := []) (pc' := 21) (lv' := [(2, .inl (v2 + 1)), (0, .inr (.inl (some 0))), (1, .inl (v1))]) (st' := []) (M' := M7) rfl trivial ?_
        refine am_W_sub [1, 2, 0] rfl ?_
        exact tw_X5_mend_21 n v1 (v2 + 1) M7 h
      · have h := hf q
        refine am_Wrun 1 (ps := []) (pc' := 43) (lv' := [(0, .inr (.inl (some 0))), (1, .inl (v1)), (2, .inl (v2))]) (st' := []) (M' := M7) rfl trivial ?_
        refine am_W_sub [0, 1] rfl ?_
        exact tj_X5_mend_43 v1 M7 h
set_option maxRecDepth 20000 in
theorem tm_X5_mend {M : am_M} {Q : Int → am_M → Prop} (h : wp_X5_mend M Q) : am_CC 5 0 [.inr (.inl (some 0))] M (am_QI Q) (fun _ _ => False) := by
  refine ⟨Nat.le_of_ble_eq_true rfl, ?_⟩
  show am_W (am_CC 4) dt_X5_mend 4 0 none (am_QI Q) (am_qx 0 (fun _ _ => False)) (0, 0, [(0, .inr (.inl (some 0)))], [], M)
  refine am_Wrun 4 (ps := []) (pc' := 8) (lv' := [(0, .inr (.inl (some 0)))]) (st' := [.inr (.inl (some 1)), .inr (.inl (some 14))]) (M' := M) rfl trivial ?_
  refine am_WcallV (y := 1) (n := 2) (a := 14) (f := 11) (as := [.inr (.inl (some 1))]) (st' := []) rfl rfl rfl rfl rfl rfl rfl rfl rfl rfl (Nat.zero_le _) rfl (am_CC_le (Nat.le_of_ble_eq_true rfl) (tm_X0_remember h)) (fun r M1 q => ?_) (fun _ _ q => q.elim)
  obtain ⟨rfl, h⟩ := q
  refine am_Wrun 2 (ps := []) (pc' := 15) (lv' := [(0, .inr (.inl (some 0)))]) (st' := [.inr (.inl (some 1))]) (M' := M1) rfl trivial ?_
  refine am_WcallV (y := 5) (n := 1) (a := 1) (f := 18) (as := []) (st' := []) rfl rfl rfl rfl rfl rfl rfl rfl rfl rfl (Nat.zero_le _) rfl (am_CC_le (Nat.le_of_ble_eq_true rfl) (tm_X2_keptPoints h)) (fun r M3 q => ?_) (fun _ _ q => q.elim)
  obtain ⟨x2, rfl, h⟩ := q
  refine am_Wrun 3 (ps := []) (pc' := 21) (lv' := [(2, .inl (0)), (1, .inl (x2)), (0, .inr (.inl (some 0)))]) (st' := []) (M' := M3) rfl trivial ?_
  refine am_W_sub [2, 1, 0] rfl ?_
  obtain ⟨n21, h⟩ := h
  exact tw_X5_mend_21 n21 x2 0 M3 h
abbrev dt_X6_keptAt : am_D := (tk_X6_keptAt, 6, 3, some .int, tb_hn 142)
def wl_X6_keptAt_2 (Q : Int → am_M → Prop) : Nat → Int → Int → am_M → Prop
  | 0, _, _, _ => False
  | n + 1, v1, v2, M => (am_rg v2) ∧ (am_rg (M 70 0)) ∧ ((M 70 0) ≤ v2 → Q (-1) M) ∧ (¬ (M 70 0) ≤ v2 → wp_X6_time v2 M (fun x1 M2 => (am_rg x1) ∧ (am_rg v1) ∧ (¬ x1 = v1 → wl_X6_keptAt_2 Q n v1 (v2 + 1) M2) ∧ (¬ (¬ x1 = v1) → wp_X6_isKept v2 M2 (fun x3 M4 => (am_rg x3) ∧ (x3 = 0 → wl_X6_keptAt_2 Q n v1 (v2 + 1) M4) ∧ (¬ x3 = 0 → Q v2 M4)))))
def wp_X6_keptAt (a0 : Int) (M : am_M) (Q : Int → am_M → Prop) : Prop := ∃ e2, wl_X6_keptAt_2 Q e2 a0 0 M
set_option maxRecDepth 20000 in
theorem tw_X6_keptAt_2 {Q : Int → am_M → Prop} {QX : am_X} : ∀ (n : Nat) (v1 : Int) (v2 : Int) (M : am_M), wl_X6_keptAt_2 Q n v1 v2 M → am_W (am_CC 1) dt_X6_keptAt 1 0 none (am_QI Q) QX (0, 2, [(0, .inr (.inl (some 69))), (1, .inl (v1)), (2, .inl (v2))], [], M)
  | 0, _, _, _, h => h.elim
  | n + 1, v1, v2, M, h => by
    refine am_Wrun 5 (ps := [0 ≤ (0 : Int) ∧ (0 : Int) < 203]) (pc' := 9) (lv' := [(0, .inr (.inl (some 69))), (1, .inl (v1)), (2, .inl (v2))]) (st' := [.inl (M 70 0), .inl (v2)]) (M' := M) rfl ⟨⟨by decide, by decide⟩, trivial⟩ ?_
    obtain ⟨b0, b1, ht, hf⟩ := h
    refine am_Wbr (P := [am_rg v2, am_rg (M 70 0)]) (c := (M 70 0) ≤ v2) (t := 37) (f := 12) (st' := []) rfl rfl ⟨b0, b1, trivial⟩ rfl (fun q => ?_) (fun q => ?_)
    · have h := ht q
      refine am_Wrun 1 (ps := []) (pc' := 38) (lv' := [(0, .inr (.inl (some 69))), (1, .inl (v1)), (2, .inl (v2))]) (st' := [.inl ((-1))]) (M' := M) rfl trivial ?_
      exact am_Wreti rfl rfl h
    · have h := hf q
      refine am_Wrun 2 (ps := []) (pc' := 14) (lv' := [(0, .inr (.inl (some 69))), (1, .inl (v1)), (2, .inl (v2))]) (st' := [.inl (v2), .inr (.inl (some 69))]) (M' := M) rfl trivial ?_
      refine am_WcallV (y := 115) (n := 2) (a := 69) (f := 17) (as := [.inl (v2)]) (st' := []) rfl rfl rfl rfl rfl rfl rfl rfl rfl rfl (Nat.zero_le _) rfl (am_CC_le (Nat.le_of_ble_eq_true rfl) (tm_X6_time h)) (fun r M2 q => ?_) (fun _ _ q => q.elim)
      obtain ⟨x1, rfl, h⟩ := q
      refine am_Wrun 1 (ps := []) (pc' := 18) (lv' := [(0, .inr (.inl (some 69))), (1, .inl (v1)), (2, .inl (v2))]) (st' := [.inl (v1), .inl (x1)]) (M' := M2) rfl trivial ?_
      obtain ⟨b0, b1, ht, hf⟩ := h
      refine am_Wbr (P := [am_rg x1, am_rg v1]) (c := ¬ x1 = v1) (t := 31) (f := 21) (st' := []) rfl rfl ⟨b0, b1, trivial⟩ rfl (fun q => ?_) (fun q => ?_)
      · have h := ht q
        refine am_Wrun 2 (ps := []) (pc' := 2) (lv' := [(2, .inl (v2 + 1)), (0, .inr (.inl (some 69))), (1, .inl (v1))]) (st' := []) (M' := M2) rfl trivial ?_
        refine am_W_sub [1, 2, 0] rfl ?_
        exact tw_X6_keptAt_2 n v1 (v2 + 1) M2 h
      · have h := hf q
        refine am_Wrun 2 (ps := []) (pc' := 23) (lv' := [(0, .inr (.inl (some 69))), (1, .inl (v1)), (2, .inl (v2))]) (st' := [.inl (v2), .inr (.inl (some 69))]) (M' := M2) rfl trivial ?_
        refine am_WcallV (y := 123) (n := 2) (a := 69) (f := 26) (as := [.inl (v2)]) (st' := []) rfl rfl rfl rfl rfl rfl rfl rfl rfl rfl (Nat.zero_le _) rfl (am_CC_le (Nat.le_of_ble_eq_true rfl) (tm_X6_isKept h)) (fun r M4 q => ?_) (fun _ _ q => q.elim)
        obtain ⟨x3, rfl, h⟩ := q
        obtain ⟨b0, ht, hf⟩ := h
        refine am_Wbr (P := [am_rg x3]) (c := x3 = 0) (t := 31) (f := 29) (st' := []) rfl rfl ⟨b0, trivial⟩ rfl (fun q => ?_) (fun q => ?_)
        · have h := ht q
          refine am_Wrun 2 (ps := []) (pc' := 2) (lv' := [(2, .inl (v2 + 1)), (0, .inr (.inl (some 69))), (1, .inl (v1))]) (st' := []) (M' := M4) rfl trivial ?_
          refine am_W_sub [1, 2, 0] rfl ?_
          exact tw_X6_keptAt_2 n v1 (v2 + 1) M4 h
        · have h := hf q
          refine am_Wrun 1 (ps := []) (pc' := 30) (lv' := [(0, .inr (.inl (some 69))), (1, .inl (v1)), (2, .inl (v2))]) (st' := [.inl (v2)]) (M' := M4) rfl trivial ?_
          exact am_Wreti rfl rfl h
set_option maxRecDepth 20000 in
theorem tm_X6_keptAt {a0 : Int} {M : am_M} {Q : Int → am_M → Prop} (h : wp_X6_keptAt a0 M Q) : am_CC 2 142 [.inr (.inl (some 69)), .inl (a0)] M (am_QI Q) (fun _ _ => False) := by
  refine ⟨Nat.le_of_ble_eq_true rfl, ?_⟩
  show am_W (am_CC 1) dt_X6_keptAt 1 0 none (am_QI Q) (am_qx 142 (fun _ _ => False)) (0, 0, [(0, .inr (.inl (some 69))), (1, .inl (a0))], [], M)
  refine am_Wrun 2 (ps := []) (pc' := 2) (lv' := [(2, .inl (0)), (0, .inr (.inl (some 69))), (1, .inl (a0))]) (st' := []) (M' := M) rfl trivial ?_
  refine am_W_sub [1, 2, 0] rfl ?_
  obtain ⟨n2, h⟩ := h
  exact tw_X6_keptAt_2 n2 a0 0 M h
abbrev dt_X6_read : am_D := (tk_X6_read, 6, 3, none, tb_hn 141)
def wp_X6_read (a0 : Int) (M : am_M) (Q : am_M → Prop) : Prop := wp_X6_keptAt a0 M (fun x1 M2 => wp_X6_around a0 M2 (fun M3 => (am_rg x1) ∧ (x1 < 0 → (am_rg ((am_up M3 69 12 0) 69 9)) ∧ (((am_up M3 69 12 0) 69 9) < 0 → Q (am_up M3 69 12 0)) ∧ (¬ ((am_up M3 69 12 0) 69 9) < 0 → (am_rg ((am_up M3 69 12 0) 69 10)) ∧ (((am_up M3 69 12 0) 69 10) < 0 → Q (am_up M3 69 12 0)) ∧ (¬ ((am_up M3 69 12 0) 69 10) < 0 → wp_X6_stretchOf ((am_up M3 69 12 0) 69 9) (am_up M3 69 12 0) (fun x4 M5 => wp_X6_stretchOf (M5 69 10) M5 (fun x6 M7 => (am_rg x4) ∧ (am_rg x6) ∧ (¬ x4 = x6 → Q M7) ∧ (¬ (¬ x4 = x6) → wp_X6_above (M7 69 9) (M7 69 10) a0 M7 (fun x8 M9 => wp_X6_below ((am_up M9 69 11 x8) 69 9) ((am_up M9 69 11 x8) 69 10) (am_up M9 69 11 x8) (fun x10 M11 => Q (am_up M11 69 12 x10))))))))) ∧ (¬ x1 < 0 → wp_X6_value x1 (am_up M3 69 12 0) (fun x12 M13 => Q (am_up (am_up M13 69 11 x12) 69 12 1)))))
set_option maxRecDepth 20000 in
theorem tm_X6_read {a0 : Int} {M : am_M} {Q : am_M → Prop} (h : wp_X6_read a0 M Q) : am_CC 4 141 [.inr (.inl (some 69)), .inl (a0)] M (am_QV Q) (fun _ _ => False) := by
  refine ⟨Nat.le_of_ble_eq_true rfl, ?_⟩
  show am_W (am_CC 3) dt_X6_read 3 0 none (am_QV Q) (am_qx 141 (fun _ _ => False)) (0, 0, [(0, .inr (.inl (some 69))), (1, .inl (a0))], [], M)
  refine am_Wrun 2 (ps := []) (pc' := 2) (lv' := [(0, .inr (.inl (some 69))), (1, .inl (a0))]) (st' := [.inl (a0), .inr (.inl (some 69))]) (M' := M) rfl trivial ?_
  refine am_WcallV (y := 142) (n := 2) (a := 69) (f := 5) (as := [.inl (a0)]) (st' := []) rfl rfl rfl rfl rfl rfl rfl rfl rfl rfl (Nat.zero_le _) rfl (am_CC_le (Nat.le_of_ble_eq_true rfl) (tm_X6_keptAt h)) (fun r M2 q => ?_) (fun _ _ q => q.elim)
  obtain ⟨x1, rfl, h⟩ := q
  refine am_Wrun 3 (ps := []) (pc' := 8) (lv' := [(2, .inl (x1)), (0, .inr (.inl (some 69))), (1, .inl (a0))]) (st' := [.inl (a0), .inr (.inl (some 69))]) (M' := M2) rfl trivial ?_
  refine am_WcallV (y := 125) (n := 2) (a := 69) (f := 11) (as := [.inl (a0)]) (st' := []) rfl rfl rfl rfl rfl rfl rfl rfl rfl rfl (Nat.zero_le _) rfl (am_CC_le (Nat.le_of_ble_eq_true rfl) (tm_X6_around h)) (fun r M3 q => ?_) (fun _ _ q => q.elim)
  obtain ⟨rfl, h⟩ := q
  refine am_Wrun 4 (ps := []) (pc' := 17) (lv' := [(2, .inl (x1)), (0, .inr (.inl (some 69))), (1, .inl (a0))]) (st' := [.inl (x1)]) (M' := (am_up M3 69 12 0)) rfl trivial ?_
  obtain ⟨b0, ht, hf⟩ := h
  refine am_Wbr (P := [am_rg x1]) (c := x1 < 0) (t := 37) (f := 20) (st' := []) rfl rfl ⟨b0, trivial⟩ rfl (fun q => ?_) (fun q => ?_)
  · have h := ht q
    refine am_Wrun 2 (ps := []) (pc' := 41) (lv' := [(2, .inl (x1)), (0, .inr (.inl (some 69))), (1, .inl (a0))]) (st' := [.inl ((am_up M3 69 12 0) 69 9)]) (M' := (am_up M3 69 12 0)) rfl trivial ?_
    obtain ⟨b0, ht, hf⟩ := h
    refine am_Wbr (P := [am_rg ((am_up M3 69 12 0) 69 9)]) (c := ((am_up M3 69 12 0) 69 9) < 0) (t := 103) (f := 44) (st' := []) rfl rfl ⟨b0, trivial⟩ rfl (fun q => ?_) (fun q => ?_)
    · have h := ht q
      exact am_Wretv rfl rfl h
    · have h := hf q
      refine am_Wrun 2 (ps := []) (pc' := 48) (lv' := [(2, .inl (x1)), (0, .inr (.inl (some 69))), (1, .inl (a0))]) (st' := [.inl ((am_up M3 69 12 0) 69 10)]) (M' := (am_up M3 69 12 0)) rfl trivial ?_
      obtain ⟨b0, ht, hf⟩ := h
      refine am_Wbr (P := [am_rg ((am_up M3 69 12 0) 69 10)]) (c := ((am_up M3 69 12 0) 69 10) < 0) (t := 103) (f := 51) (st' := []) rfl rfl ⟨b0, trivial⟩ rfl (fun q => ?_) (fun q => ?_)
      · have h := ht q
        exact am_Wretv rfl rfl h
      · have h := hf q
        refine am_Wrun 3 (ps := []) (pc' := 56) (lv' := [(2, .inl (x1)), (0, .inr (.inl (some 69))), (1, .inl (a0))]) (st' := [.inl ((am_up M3 69 12 0) 69 9), .inr (.inl (some 69))]) (M' := (am_up M3 69 12 0)) rfl trivial ?_
        refine am_WcallV (y := 126) (n := 2) (a := 69) (f := 59) (as := [.inl ((am_up M3 69 12 0) 69 9)]) (st' := []) rfl rfl rfl rfl rfl rfl rfl rfl rfl rfl (Nat.zero_le _) rfl (am_CC_le (Nat.le_of_ble_eq_true rfl) (tm_X6_stretchOf h)) (fun r M5 q => ?_) (fun _ _ q => q.elim)
        obtain ⟨x4, rfl, h⟩ := q
        refine am_Wrun 3 (ps := []) (pc' := 64) (lv' := [(2, .inl (x1)), (0, .inr (.inl (some 69))), (1, .inl (a0))]) (st' := [.inl (M5 69 10), .inr (.inl (some 69)), .inl (x4)]) (M' := M5) rfl trivial ?_
        refine am_WcallV (y := 126) (n := 2) (a := 69) (f := 67) (as := [.inl (M5 69 10)]) (st' := [.inl (x4)]) rfl rfl rfl rfl rfl rfl rfl rfl rfl rfl (Nat.zero_le _) rfl (am_CC_le (Nat.le_of_ble_eq_true rfl) (tm_X6_stretchOf h)) (fun r M7 q => ?_) (fun _ _ q => q.elim)
        obtain ⟨x6, rfl, h⟩ := q
        obtain ⟨b0, b1, ht, hf⟩ := h
        refine am_Wbr (P := [am_rg x4, am_rg x6]) (c := ¬ x4 = x6) (t := 103) (f := 70) (st' := []) rfl rfl ⟨b0, b1, trivial⟩ rfl (fun q => ?_) (fun q => ?_)
        · have h := ht q
          exact am_Wretv rfl rfl h
        · have h := hf q
          refine am_Wrun 7 (ps := []) (pc' := 81) (lv' := [(2, .inl (x1)), (0, .inr (.inl (some 69))), (1, .inl (a0))]) (st' := [.inl (a0), .inl (M7 69 10), .inl (M7 69 9), .inr (.inl (some 69)), .inr (.inl (some 69))]) (M' := M7) rfl trivial ?_
          refine am_WcallV (y := 132) (n := 4) (a := 69) (f := 84) (as := [.inl (M7 69 9), .inl (M7 69 10), .inl (a0)]) (st' := [.inr (.inl (some 69))]) rfl rfl rfl rfl rfl rfl rfl rfl rfl rfl (Nat.zero_le _) rfl (am_CC_le (Nat.le_of_ble_eq_true rfl) (tm_X6_above h)) (fun r M9 q => ?_) (fun _ _ q => q.elim)
          obtain ⟨x8, rfl, h⟩ := q
          refine am_Wrun 7 (ps := []) (pc' := 97) (lv' := [(2, .inl (x1)), (0, .inr (.inl (some 69))), (1, .inl (a0))]) (st' := [.inl ((am_up M9 69 11 x8) 69 10), .inl ((am_up M9 69 11 x8) 69 9), .inr (.inl (some 69)), .inr (.inl (some 69))]) (M' := (am_up M9 69 11 x8)) rfl trivial ?_
          refine am_WcallV (y := 131) (n := 3) (a := 69) (f := 100) (as := [.inl ((am_up M9 69 11 x8) 69 9), .inl ((am_up M9 69 11 x8) 69 10)]) (st' := [.inr (.inl (some 69))]) rfl rfl rfl rfl rfl rfl rfl rfl rfl rfl (Nat.zero_le _) rfl (am_CC_le (Nat.le_of_ble_eq_true rfl) (tm_X6_below h)) (fun r M11 q => ?_) (fun _ _ q => q.elim)
          obtain ⟨x10, rfl, h⟩ := q
          refine am_Wrun 1 (ps := []) (pc' := 103) (lv' := [(2, .inl (x1)), (0, .inr (.inl (some 69))), (1, .inl (a0))]) (st' := []) (M' := (am_up M11 69 12 x10)) rfl trivial ?_
          exact am_Wretv rfl rfl h
  · have h := hf q
    refine am_Wrun 3 (ps := []) (pc' := 23) (lv' := [(2, .inl (x1)), (0, .inr (.inl (some 69))), (1, .inl (a0))]) (st' := [.inl (x1), .inr (.inl (some 69)), .inr (.inl (some 69))]) (M' := (am_up M3 69 12 0)) rfl trivial ?_
    refine am_WcallV (y := 120) (n := 2) (a := 69) (f := 26) (as := [.inl (x1)]) (st' := [.inr (.inl (some 69))]) rfl rfl rfl rfl rfl rfl rfl rfl rfl rfl (Nat.zero_le _) rfl (am_CC_le (Nat.le_of_ble_eq_true rfl) (tm_X6_value h)) (fun r M13 q => ?_) (fun _ _ q => q.elim)
    obtain ⟨x12, rfl, h⟩ := q
    refine am_Wrun 5 (ps := []) (pc' := 103) (lv' := [(2, .inl (x1)), (0, .inr (.inl (some 69))), (1, .inl (a0))]) (st' := []) (M' := (am_up (am_up M13 69 11 x12) 69 12 1)) rfl trivial ?_
    exact am_Wretv rfl rfl h
abbrev dt_X6_farFrom : am_D := (tk_X6_farFrom, 6, 3, some .int, tb_hn 140)
def wp_X6_farFrom (a0 : Int) (a1 : Int) (M : am_M) (Q : Int → am_M → Prop) : Prop := wp_X6_read a0 M (fun M1 => (am_rg (M1 69 12)) ∧ (¬ (M1 69 12) = 0 → wp_X6_size ((a1 * (M1 69 12)) - (M1 69 11)) M1 (fun x2 M3 => Q x2 M3)) ∧ (¬ (¬ (M1 69 12) = 0) → Q (-1) M1))
set_option maxRecDepth 20000 in
theorem tm_X6_farFrom {a0 a1 : Int} {M : am_M} {Q : Int → am_M → Prop} (h : wp_X6_farFrom a0 a1 M Q) : am_CC 5 140 [.inr (.inl (some 69)), .inl (a0), .inl (a1)] M (am_QI Q) (fun _ _ => False) := by
  refine ⟨Nat.le_of_ble_eq_true rfl, ?_⟩
  show am_W (am_CC 4) dt_X6_farFrom 4 0 none (am_QI Q) (am_qx 140 (fun _ _ => False)) (0, 0, [(0, .inr (.inl (some 69))), (1, .inl (a0)), (2, .inl (a1))], [], M)
  refine am_Wrun 2 (ps := []) (pc' := 2) (lv' := [(0, .inr (.inl (some 69))), (1, .inl (a0)), (2, .inl (a1))]) (st' := [.inl (a0), .inr (.inl (some 69))]) (M' := M) rfl trivial ?_
  refine am_WcallV (y := 141) (n := 2) (a := 69) (f := 5) (as := [.inl (a0)]) (st' := []) rfl rfl rfl rfl rfl rfl rfl rfl rfl rfl (Nat.zero_le _) rfl (am_CC_le (Nat.le_of_ble_eq_true rfl) (tm_X6_read h)) (fun r M1 q => ?_) (fun _ _ q => q.elim)
  obtain ⟨rfl, h⟩ := q
  refine am_Wrun 2 (ps := []) (pc' := 9) (lv' := [(0, .inr (.inl (some 69))), (1, .inl (a0)), (2, .inl (a1))]) (st' := [.inl (M1 69 12)]) (M' := M1) rfl trivial ?_
  obtain ⟨b0, ht, hf⟩ := h
  refine am_Wbr (P := [am_rg (M1 69 12)]) (c := ¬ (M1 69 12) = 0) (t := 16) (f := 12) (st' := []) rfl rfl ⟨b0, trivial⟩ rfl (fun q => ?_) (fun q => ?_)
  · have h := ht q
    refine am_Wrun 7 (ps := []) (pc' := 27) (lv' := [(0, .inr (.inl (some 69))), (1, .inl (a0)), (2, .inl (a1))]) (st' := [.inl ((a1 * (M1 69 12)) - (M1 69 11))]) (M' := M1) rfl trivial ?_
    refine am_WcallS (y := 133) (n := 1) (f := 30) (co := 0) (as := [.inl ((a1 * (M1 69 12)) - (M1 69 11))]) (st' := []) rfl rfl rfl rfl rfl rfl rfl rfl rfl (Nat.zero_le _) rfl (am_CC_le (Nat.le_of_ble_eq_true rfl) (tm_X6_size h)) (fun r M3 q => ?_) (fun _ _ q => q.elim)
    obtain ⟨x2, rfl, h⟩ := q
    exact am_Wreti rfl rfl h
  · have h := hf q
    refine am_Wrun 2 (ps := []) (pc' := 30) (lv' := [(0, .inr (.inl (some 69))), (1, .inl (a0)), (2, .inl (a1))]) (st' := [.inl ((-1))]) (M' := M1) rfl trivial ?_
    exact am_Wreti rfl rfl h
abbrev dt_X6_isTrue : am_D := (tk_X6_isTrue, 6, 4, some .boolean, tb_hn 139)
def wp_X6_isTrue (a0 : Int) (a1 : Int) (M : am_M) (Q : Int → am_M → Prop) : Prop := wp_X6_farFrom a0 a1 M (fun x1 M2 => (am_rg x1) ∧ (x1 < 0 → Q 0 M2) ∧ (¬ x1 < 0 → (am_rg x1) ∧ (am_rg ((M2 70 4) * (M2 69 12))) ∧ (((M2 70 4) * (M2 69 12)) < x1 → Q 0 M2) ∧ (¬ ((M2 70 4) * (M2 69 12)) < x1 → Q 1 M2)))
set_option maxRecDepth 20000 in
theorem tm_X6_isTrue {a0 a1 : Int} {M : am_M} {Q : Int → am_M → Prop} (h : wp_X6_isTrue a0 a1 M Q) : am_CC 6 139 [.inr (.inl (some 69)), .inl (a0), .inl (a1)] M (am_QI Q) (fun _ _ => False) := by
  refine ⟨Nat.le_of_ble_eq_true rfl, ?_⟩
  show am_W (am_CC 5) dt_X6_isTrue 5 0 none (am_QI Q) (am_qx 139 (fun _ _ => False)) (0, 0, [(0, .inr (.inl (some 69))), (1, .inl (a0)), (2, .inl (a1))], [], M)
  refine am_Wrun 3 (ps := []) (pc' := 3) (lv' := [(0, .inr (.inl (some 69))), (1, .inl (a0)), (2, .inl (a1))]) (st' := [.inl (a1), .inl (a0), .inr (.inl (some 69))]) (M' := M) rfl trivial ?_
  refine am_WcallV (y := 140) (n := 3) (a := 69) (f := 6) (as := [.inl (a0), .inl (a1)]) (st' := []) rfl rfl rfl rfl rfl rfl rfl rfl rfl rfl (Nat.zero_le _) rfl (am_CC_le (Nat.le_of_ble_eq_true rfl) (tm_X6_farFrom h)) (fun r M2 q => ?_) (fun _ _ q => q.elim)
  obtain ⟨x1, rfl, h⟩ := q
  refine am_Wrun 2 (ps := []) (pc' := 8) (lv' := [(3, .inl (x1)), (0, .inr (.inl (some 69))), (1, .inl (a0)), (2, .inl (a1))]) (st' := [.inl (x1)]) (M' := M2) rfl trivial ?_
  obtain ⟨b0, ht, hf⟩ := h
  refine am_Wbr (P := [am_rg x1]) (c := x1 < 0) (t := 30) (f := 11) (st' := []) rfl rfl ⟨b0, trivial⟩ rfl (fun q => ?_) (fun q => ?_)
  · have h := ht q
    refine am_Wrun 1 (ps := []) (pc' := 31) (lv' := [(3, .inl (x1)), (0, .inr (.inl (some 69))), (1, .inl (a0)), (2, .inl (a1))]) (st' := [.inl (0)]) (M' := M2) rfl trivial ?_
    exact am_Wretz rfl rfl (Or.inl rfl) h
  · have h := hf q
    refine am_Wrun 8 (ps := [0 ≤ (4 : Int) ∧ (4 : Int) < 203]) (pc' := 23) (lv' := [(3, .inl (x1)), (0, .inr (.inl (some 69))), (1, .inl (a0)), (2, .inl (a1))]) (st' := [.inl ((M2 70 4) * (M2 69 12)), .inl (x1)]) (M' := M2) rfl ⟨⟨by decide, by decide⟩, trivial⟩ ?_
    obtain ⟨b0, b1, ht, hf⟩ := h
    refine am_Wbr (P := [am_rg x1, am_rg ((M2 70 4) * (M2 69 12))]) (c := ((M2 70 4) * (M2 69 12)) < x1) (t := 30) (f := 26) (st' := []) rfl rfl ⟨b0, b1, trivial⟩ rfl (fun q => ?_) (fun q => ?_)
    · have h := ht q
      refine am_Wrun 1 (ps := []) (pc' := 31) (lv' := [(3, .inl (x1)), (0, .inr (.inl (some 69))), (1, .inl (a0)), (2, .inl (a1))]) (st' := [.inl (0)]) (M' := M2) rfl trivial ?_
      exact am_Wretz rfl rfl (Or.inl rfl) h
    · have h := hf q
      refine am_Wrun 2 (ps := []) (pc' := 31) (lv' := [(3, .inl (x1)), (0, .inr (.inl (some 69))), (1, .inl (a0)), (2, .inl (a1))]) (st' := [.inl (1)]) (M' := M2) rfl trivial ?_
      exact am_Wretz rfl rfl (Or.inr rfl) h
abbrev dt_X6_isBroken : am_D := (tk_X6_isBroken, 6, 2, some .boolean, tb_hn 138)
def wp_X6_isBroken (a0 : Int) (M : am_M) (Q : Int → am_M → Prop) : Prop := wp_X6_isKept a0 M (fun x1 M2 => (am_rg x1) ∧ (¬ x1 = 0 → Q 0 M2) ∧ (¬ (¬ x1 = 0) → wp_X6_time a0 M2 (fun x3 M4 => wp_X6_value a0 M4 (fun x5 M6 => wp_X6_isTrue x3 x5 M6 (fun x7 M8 => (am_rg x7) ∧ (¬ x7 = 0 → Q 0 M8) ∧ (¬ (¬ x7 = 0) → Q 1 M8))))))
set_option maxRecDepth 20000 in
theorem tm_X6_isBroken {a0 : Int} {M : am_M} {Q : Int → am_M → Prop} (h : wp_X6_isBroken a0 M Q) : am_CC 7 138 [.inr (.inl (some 69)), .inl (a0)] M (am_QI Q) (fun _ _ => False) := by
  refine ⟨Nat.le_of_ble_eq_true rfl, ?_⟩
  show am_W (am_CC 6) dt_X6_isBroken 6 0 none (am_QI Q) (am_qx 138 (fun _ _ => False)) (0, 0, [(0, .inr (.inl (some 69))), (1, .inl (a0))], [], M)
  refine am_Wrun 2 (ps := []) (pc' := 2) (lv' := [(0, .inr (.inl (some 69))), (1, .inl (a0))]) (st' := [.inl (a0), .inr (.inl (some 69))]) (M' := M) rfl trivial ?_
  refine am_WcallV (y := 123) (n := 2) (a := 69) (f := 5) (as := [.inl (a0)]) (st' := []) rfl rfl rfl rfl rfl rfl rfl rfl rfl rfl (Nat.zero_le _) rfl (am_CC_le (Nat.le_of_ble_eq_true rfl) (tm_X6_isKept h)) (fun r M2 q => ?_) (fun _ _ q => q.elim)
  obtain ⟨x1, rfl, h⟩ := q
  obtain ⟨b0, ht, hf⟩ := h
  refine am_Wbr (P := [am_rg x1]) (c := ¬ x1 = 0) (t := 29) (f := 8) (st' := []) rfl rfl ⟨b0, trivial⟩ rfl (fun q => ?_) (fun q => ?_)
  · have h := ht q
    refine am_Wrun 1 (ps := []) (pc' := 30) (lv' := [(0, .inr (.inl (some 69))), (1, .inl (a0))]) (st' := [.inl (0)]) (M' := M2) rfl trivial ?_
    exact am_Wretz rfl rfl (Or.inl rfl) h
  · have h := hf q
    refine am_Wrun 3 (ps := []) (pc' := 11) (lv' := [(0, .inr (.inl (some 69))), (1, .inl (a0))]) (st' := [.inl (a0), .inr (.inl (some 69)), .inr (.inl (some 69))]) (M' := M2) rfl trivial ?_
    refine am_WcallV (y := 115) (n := 2) (a := 69) (f := 14) (as := [.inl (a0)]) (st' := [.inr (.inl (some 69))]) rfl rfl rfl rfl rfl rfl rfl rfl rfl rfl (Nat.zero_le _) rfl (am_CC_le (Nat.le_of_ble_eq_true rfl) (tm_X6_time h)) (fun r M4 q => ?_) (fun _ _ q => q.elim)
    obtain ⟨x3, rfl, h⟩ := q
    refine am_Wrun 2 (ps := []) (pc' := 16) (lv' := [(0, .inr (.inl (some 69))), (1, .inl (a0))]) (st' := [.inl (a0), .inr (.inl (some 69)), .inl (x3), .inr (.inl (some 69))]) (M' := M4) rfl trivial ?_
    refine am_WcallV (y := 120) (n := 2) (a := 69) (f := 19) (as := [.inl (a0)]) (st' := [.inl (x3), .inr (.inl (some 69))]) rfl rfl rfl rfl rfl rfl rfl rfl rfl rfl (Nat.zero_le _) rfl (am_CC_le (Nat.le_of_ble_eq_true rfl) (tm_X6_value h)) (fun r M6 q => ?_) (fun _ _ q => q.elim)
    obtain ⟨x5, rfl, h⟩ := q
    refine am_WcallV (y := 139) (n := 3) (a := 69) (f := 22) (as := [.inl (x3), .inl (x5)]) (st' := []) rfl rfl rfl rfl rfl rfl rfl rfl rfl rfl (Nat.zero_le _) rfl (am_CC_le (Nat.le_of_ble_eq_true rfl) (tm_X6_isTrue h)) (fun r M8 q => ?_) (fun _ _ q => q.elim)
    obtain ⟨x7, rfl, h⟩ := q
    obtain ⟨b0, ht, hf⟩ := h
    refine am_Wbr (P := [am_rg x7]) (c := ¬ x7 = 0) (t := 29) (f := 25) (st' := []) rfl rfl ⟨b0, trivial⟩ rfl (fun q => ?_) (fun q => ?_)
    · have h := ht q
      refine am_Wrun 1 (ps := []) (pc' := 30) (lv' := [(0, .inr (.inl (some 69))), (1, .inl (a0))]) (st' := [.inl (0)]) (M' := M8) rfl trivial ?_
      exact am_Wretz rfl rfl (Or.inl rfl) h
    · have h := hf q
      refine am_Wrun 2 (ps := []) (pc' := 30) (lv' := [(0, .inr (.inl (some 69))), (1, .inl (a0))]) (st' := [.inl (1)]) (M' := M8) rfl trivial ?_
      exact am_Wretz rfl rfl (Or.inr rfl) h
abbrev dt_X6_mend : am_D := (tk_X6_mend, 6, 4, some .int, tb_hn 137)
def wl_X6_mend_81 (Q : Int → am_M → Prop) (k16 : Int → Int → am_M → Prop) : Nat → Int → Int → Int → am_M → Prop
  | 0, _, _, _, _ => False
  | n + 1, v1, v2, v3, M => (am_rg v3) ∧ (am_rg (M 70 0)) ∧ ((M 70 0) ≤ v3 → k16 v1 v2 M) ∧ (¬ (M 70 0) ≤ v3 → (0 ≤ (127 + v3 : Int) ∧ (127 + v3 : Int) < 203) ∧ (0 ≤ (v3 : Int) ∧ (v3 : Int) < 60) ∧ (0 ≤ (127 + v3 : Int) ∧ (127 + v3 : Int) < 203) ∧ (wl_X6_mend_81 Q k16 n v1 v2 (v3 + 1) (am_up M 70 (127 + v3) ((Int32.ofInt (M 70 (127 + v3)) ||| Int32.ofInt (M 75 v3)).toInt))))
def wj_X6_mend_52 (Q : Int → am_M → Prop) (k16 : Int → Int → am_M → Prop) (k24 : Int → Int → Int → am_M → Prop) (v1 : Int) (v2 : Int) (v3 : Int) (s0 : Int) (s1 : Int) (M : am_M) : Prop := (0 ≤ (s1 : Int) ∧ (s1 : Int) < 60) ∧ ((am_rg v2) ∧ (¬ v2 = 0 → k24 v1 1 (v3 + 1) (am_up M 75 s1 s0)) ∧ (¬ (¬ v2 = 0) → (0 ≤ (v3 : Int) ∧ (v3 : Int) < 60) ∧ ((am_rg ((am_up M 75 s1 s0) 75 v3)) ∧ (¬ ((am_up M 75 s1 s0) 75 v3) = 1 → k24 v1 0 (v3 + 1) (am_up M 75 s1 s0)) ∧ (¬ (¬ ((am_up M 75 s1 s0) 75 v3) = 1) → k24 v1 1 (v3 + 1) (am_up M 75 s1 s0)))))
def wl_X6_mend_24 (Q : Int → am_M → Prop) (k16 : Int → Int → am_M → Prop) : Nat → Int → Int → Int → am_M → Prop
  | 0, _, _, _, _ => False
  | n + 1, v1, v2, v3, M => (am_rg v3) ∧ (am_rg (M 70 0)) ∧ ((M 70 0) ≤ v3 → ∃ e81, wl_X6_mend_81 Q k16 e81 v1 v2 0 M) ∧ (¬ (M 70 0) ≤ v3 → wp_X6_isBroken v3 M (fun x6 M7 => (am_rg x6) ∧ (x6 = 0 → wj_X6_mend_52 Q k16 (wl_X6_mend_24 Q k16 n) v1 v2 v3 0 v3 M7) ∧ (¬ x6 = 0 → wj_X6_mend_52 Q k16 (wl_X6_mend_24 Q k16 n) v1 v2 v3 1 v3 M7)))
def wl_X6_mend_16 (Q : Int → am_M → Prop) : Nat → Int → Int → am_M → Prop
  | 0, _, _, _ => False
  | n + 1, v1, v2, M => (am_rg v2) ∧ (v2 = 0 → wp_X6_keptMany M (fun x4 M5 => Q (x4 - v1) M5)) ∧ (¬ v2 = 0 → ∃ e24, wl_X6_mend_24 Q (wl_X6_mend_16 Q n) e24 v1 0 0 M)
def wp_X6_mend (M : am_M) (Q : Int → am_M → Prop) : Prop := wp_X6_save (am_up M 69 5 0) (fun M1 => wp_X6_keptMany M1 (fun x2 M3 => ∃ e16, wl_X6_mend_16 Q e16 x2 1 M3))
set_option maxRecDepth 20000 in
theorem tw_X6_mend_81 {Q : Int → am_M → Prop} {QX : am_X} {k16 : Int → Int → am_M → Prop} (hk16 : ∀ (v1 : Int) (v2 : Int) (M : am_M), k16 v1 v2 M → am_W (am_CC 7) dt_X6_mend 7 0 none (am_QI Q) QX (0, 16, [(0, .inr (.inl (some 69))), (1, .inl (v1)), (2, .inl (v2))], [], M)) : ∀ (n : Nat) (v1 : Int) (v2 : Int) (v3 : Int) (M : am_M), wl_X6_mend_81 Q k16 n v1 v2 v3 M → am_W (am_CC 7) dt_X6_mend 7 0 none (am_QI Q) QX (0, 81, [(0, .inr (.inl (some 69))), (1, .inl (v1)), (2, .inl (v2)), (3, .inl (v3))], [], M)
  | 0, _, _, _, _, h => h.elim
  | n + 1, v1, v2, v3, M, h => by
    refine am_Wrun 5 (ps := [0 ≤ (0 : Int) ∧ (0 : Int) < 203]) (pc' := 88) (lv' := [(0, .inr (.inl (some 69))), (1, .inl (v1)), (2, .inl (v2)), (3, .inl (v3))]) (st' := [.inl (M 70 0), .inl (v3)]) (M' := M) rfl ⟨⟨by decide, by decide⟩, trivial⟩ ?_
    obtain ⟨b0, b1, ht, hf⟩ := h
    refine am_Wbr (P := [am_rg v3, am_rg (M 70 0)]) (c := (M 70 0) ≤ v3) (t := 115) (f := 91) (st' := []) rfl rfl ⟨b0, b1, trivial⟩ rfl (fun q => ?_) (fun q => ?_)
    · have h := ht q
      refine am_Wrun 1 (ps := []) (pc' := 16) (lv' := [(0, .inr (.inl (some 69))), (1, .inl (v1)), (2, .inl (v2)), (3, .inl (v3))]) (st' := []) (M' := M) rfl trivial ?_
      refine am_W_sub [0, 1, 2] rfl ?_
      exact hk16 v1 v2 M h
    · have h := hf q
      obtain ⟨c1_0, c2_0, c3_0, h⟩ := h
      refine am_Wrun 15 (ps := [-128 ≤ (127 : Int) ∧ (127 : Int) ≤ 127, 0 ≤ (127 + v3 : Int) ∧ (127 + v3 : Int) < 203, 0 ≤ (v3 : Int) ∧ (v3 : Int) < 60, 0 ≤ (127 + v3 : Int) ∧ (127 + v3 : Int) < 203]) (pc' := 81) (lv' := [(3, .inl (v3 + 1)), (0, .inr (.inl (some 69))), (1, .inl (v1)), (2, .inl (v2))]) (st' := []) (M' := (am_up M 70 (127 + v3) ((Int32.ofInt (M 70 (127 + v3)) ||| Int32.ofInt (M 75 v3)).toInt))) rfl ⟨⟨by decide, by decide⟩, c1_0, c2_0, c3_0, trivial⟩ ?_
      refine am_W_sub [1, 2, 3, 0] rfl ?_
      exact tw_X6_mend_81 hk16 n v1 v2 (v3 + 1) (am_up M 70 (127 + v3) ((Int32.ofInt (M 70 (127 + v3)) ||| Int32.ofInt (M 75 v3)).toInt)) h
set_option maxRecDepth 20000 in
theorem tj_X6_mend_52 {Q : Int → am_M → Prop} {QX : am_X} {k16 : Int → Int → am_M → Prop} {k24 : Int → Int → Int → am_M → Prop} (hk16 : ∀ (v1 : Int) (v2 : Int) (M : am_M), k16 v1 v2 M → am_W (am_CC 7) dt_X6_mend 7 0 none (am_QI Q) QX (0, 16, [(0, .inr (.inl (some 69))), (1, .inl (v1)), (2, .inl (v2))], [], M)) (hk24 : ∀ (v1 : Int) (v2 : Int) (v3 : Int) (M : am_M), k24 v1 v2 v3 M → am_W (am_CC 7) dt_X6_mend 7 0 none (am_QI Q) QX (0, 24, [(0, .inr (.inl (some 69))), (1, .inl (v1)), (2, .inl (v2)), (3, .inl (v3))], [], M)) (v1 : Int) (v2 : Int) (v3 : Int) (s0 : Int) (s1 : Int) (M : am_M) (h : wj_X6_mend_52 Q k16 k24 v1 v2 v3 s0 s1 M) : am_W (am_CC 7) dt_X6_mend 7 0 none (am_QI Q) QX (0, 52, [(0, .inr (.inl (some 69))), (1, .inl (v1)), (2, .inl (v2)), (3, .inl (v3))], [.inl (s0), .inl (s1), .inr (.inl (some 75))], M) := by
  obtain ⟨c0_0, h⟩ := h
  refine am_Wrun 2 (ps := [0 ≤ (s1 : Int) ∧ (s1 : Int) < 60]) (pc' := 54) (lv' := [(0, .inr (.inl (some 69))), (1, .inl (v1)), (2, .inl (v2)), (3, .inl (v3))]) (st' := [.inl (v2)]) (M' := (am_up M 75 s1 s0)) rfl ⟨c0_0, trivial⟩ ?_
  obtain ⟨b0, ht, hf⟩ := h
  refine am_Wbr (P := [am_rg v2]) (c := ¬ v2 = 0) (t := 67) (f := 57) (st' := []) rfl rfl ⟨b0, trivial⟩ rfl (fun q => ?_) (fun q => ?_)
  · have h := ht q
    refine am_Wrun 5 (ps := []) (pc' := 24) (lv' := [(3, .inl (v3 + 1)), (2, .inl (1)), (0, .inr (.inl (some 69))), (1, .inl (v1))]) (st' := []) (M' := (am_up M 75 s1 s0)) rfl trivial ?_
    refine am_W_sub [2, 3, 1, 0] rfl ?_
    exact hk24 v1 1 (v3 + 1) (am_up M 75 s1 s0) h
  · have h := hf q
    obtain ⟨c0_0, h⟩ := h
    refine am_Wrun 5 (ps := [0 ≤ (v3 : Int) ∧ (v3 : Int) < 60]) (pc' := 64) (lv' := [(0, .inr (.inl (some 69))), (1, .inl (v1)), (2, .inl (v2)), (3, .inl (v3))]) (st' := [.inl (1), .inl ((am_up M 75 s1 s0) 75 v3)]) (M' := (am_up M 75 s1 s0)) rfl ⟨c0_0, trivial⟩ ?_
    obtain ⟨b0, ht, hf⟩ := h
    refine am_Wbr (P := [am_rg ((am_up M 75 s1 s0) 75 v3), am_rg 1]) (c := ¬ ((am_up M 75 s1 s0) 75 v3) = 1) (t := 71) (f := 67) (st' := []) rfl rfl ⟨b0, (am_rgd rfl), trivial⟩ rfl (fun q => ?_) (fun q => ?_)
    · have h := ht q
      refine am_Wrun 4 (ps := []) (pc' := 24) (lv' := [(3, .inl (v3 + 1)), (2, .inl (0)), (0, .inr (.inl (some 69))), (1, .inl (v1))]) (st' := []) (M' := (am_up M 75 s1 s0)) rfl trivial ?_
      refine am_W_sub [2, 3, 1, 0] rfl ?_
      exact hk24 v1 0 (v3 + 1) (am_up M 75 s1 s0) h
    · have h := hf q
      refine am_Wrun 5 (ps := []) (pc' := 24) (lv' := [(3, .inl (v3 + 1)), (2, .inl (1)), (0, .inr (.inl (some 69))), (1, .inl (v1))]) (st' := []) (M' := (am_up M 75 s1 s0)) rfl trivial ?_
      refine am_W_sub [2, 3, 1, 0] rfl ?_
      exact hk24 v1 1 (v3 + 1) (am_up M 75 s1 s0) h
set_option maxRecDepth 20000 in
theorem tw_X6_mend_24 {Q : Int → am_M → Prop} {QX : am_X} {k16 : Int → Int → am_M → Prop} (hk16 : ∀ (v1 : Int) (v2 : Int) (M : am_M), k16 v1 v2 M → am_W (am_CC 7) dt_X6_mend 7 0 none (am_QI Q) QX (0, 16, [(0, .inr (.inl (some 69))), (1, .inl (v1)), (2, .inl (v2))], [], M)) : ∀ (n : Nat) (v1 : Int) (v2 : Int) (v3 : Int) (M : am_M), wl_X6_mend_24 Q k16 n v1 v2 v3 M → am_W (am_CC 7) dt_X6_mend 7 0 none (am_QI Q) QX (0, 24, [(0, .inr (.inl (some 69))), (1, .inl (v1)), (2, .inl (v2)), (3, .inl (v3))], [], M)
  | 0, _, _, _, _, h => h.elim
  | n + 1, v1, v2, v3, M, h => by
    refine am_Wrun 5 (ps := [0 ≤ (0 : Int) ∧ (0 : Int) < 203]) (pc' := 31) (lv' := [(0, .inr (.inl (some 69))), (1, .inl (v1)), (2, .inl (v2)), (3, .inl (v3))]) (st' := [.inl (M 70 0), .inl (v3)]) (M' := M) rfl ⟨⟨by decide, by decide⟩, trivial⟩ ?_
    obtain ⟨b0, b1, ht, hf⟩ := h
    refine am_Wbr (P := [am_rg v3, am_rg (M 70 0)]) (c := (M 70 0) ≤ v3) (t := 79) (f := 34) (st' := []) rfl rfl ⟨b0, b1, trivial⟩ rfl (fun q => ?_) (fun q => ?_)
    · have h := ht q
      refine am_Wrun 2 (ps := []) (pc' := 81) (lv' := [(3, .inl (0)), (0, .inr (.inl (some 69))), (1, .inl (v1)), (2, .inl (v2))]) (st' := []) (M' := M) rfl trivial ?_
      refine am_W_sub [1, 2, 3, 0] rfl ?_
      obtain ⟨n81, h⟩ := h
      exact tw_X6_mend_81 hk16 n81 v1 v2 0 M h
    · have h := hf q
      refine am_Wrun 5 (ps := []) (pc' := 41) (lv' := [(0, .inr (.inl (some 69))), (1, .inl (v1)), (2, .inl (v2)), (3, .inl (v3))]) (st' := [.inl (v3), .inr (.inl (some 69)), .inl (v3), .inr (.inl (some 75))]) (M' := M) rfl trivial ?_
      refine am_WcallV (y := 138) (n := 2) (a := 69) (f := 44) (as := [.inl (v3)]) (st' := [.inl (v3), .inr (.inl (some 75))]) rfl rfl rfl rfl rfl rfl rfl rfl rfl rfl (Nat.zero_le _) rfl (am_CC_le (Nat.le_of_ble_eq_true rfl) (tm_X6_isBroken h)) (fun r M7 q => ?_) (fun _ _ q => q.elim)
      obtain ⟨x6, rfl, h⟩ := q
      obtain ⟨b0, ht, hf⟩ := h
      refine am_Wbr (P := [am_rg x6]) (c := x6 = 0) (t := 51) (f := 47) (st' := [.inl (v3), .inr (.inl (some 75))]) rfl rfl ⟨b0, trivial⟩ rfl (fun q => ?_) (fun q => ?_)
      · have h := ht q
        refine am_Wrun 1 (ps := []) (pc' := 52) (lv' := [(0, .inr (.inl (some 69))), (1, .inl (v1)), (2, .inl (v2)), (3, .inl (v3))]) (st' := [.inl (0), .inl (v3), .inr (.inl (some 75))]) (M' := M7) rfl trivial ?_
        refine am_W_sub [0, 1, 2, 3] rfl ?_
        exact tj_X6_mend_52 hk16 (tw_X6_mend_24 hk16 n) v1 v2 v3 0 v3 M7 h
      · have h := hf q
        refine am_Wrun 2 (ps := []) (pc' := 52) (lv' := [(0, .inr (.inl (some 69))), (1, .inl (v1)), (2, .inl (v2)), (3, .inl (v3))]) (st' := [.inl (1), .inl (v3), .inr (.inl (some 75))]) (M' := M7) rfl trivial ?_
        refine am_W_sub [0, 1, 2, 3] rfl ?_
        exact tj_X6_mend_52 hk16 (tw_X6_mend_24 hk16 n) v1 v2 v3 1 v3 M7 h
set_option maxRecDepth 20000 in
theorem tw_X6_mend_16 {Q : Int → am_M → Prop} {QX : am_X} : ∀ (n : Nat) (v1 : Int) (v2 : Int) (M : am_M), wl_X6_mend_16 Q n v1 v2 M → am_W (am_CC 7) dt_X6_mend 7 0 none (am_QI Q) QX (0, 16, [(0, .inr (.inl (some 69))), (1, .inl (v1)), (2, .inl (v2))], [], M)
  | 0, _, _, _, h => h.elim
  | n + 1, v1, v2, M, h => by
    refine am_Wrun 1 (ps := []) (pc' := 17) (lv' := [(0, .inr (.inl (some 69))), (1, .inl (v1)), (2, .inl (v2))]) (st' := [.inl (v2)]) (M' := M) rfl trivial ?_
    obtain ⟨b0, ht, hf⟩ := h
    refine am_Wbr (P := [am_rg v2]) (c := v2 = 0) (t := 118) (f := 20) (st' := []) rfl rfl ⟨b0, trivial⟩ rfl (fun q => ?_) (fun q => ?_)
    · have h := ht q
      refine am_Wrun 1 (ps := []) (pc' := 119) (lv' := [(0, .inr (.inl (some 69))), (1, .inl (v1)), (2, .inl (v2))]) (st' := [.inr (.inl (some 69))]) (M' := M) rfl trivial ?_
      refine am_WcallV (y := 135) (n := 1) (a := 69) (f := 122) (as := []) (st' := []) rfl rfl rfl rfl rfl rfl rfl rfl rfl rfl (Nat.zero_le _) rfl (am_CC_le (Nat.le_of_ble_eq_true rfl) (tm_X6_keptMany h)) (fun r M5 q => ?_) (fun _ _ q => q.elim)
      obtain ⟨x4, rfl, h⟩ := q
      refine am_Wrun 2 (ps := []) (pc' := 124) (lv' := [(0, .inr (.inl (some 69))), (1, .inl (v1)), (2, .inl (v2))]) (st' := [.inl (x4 - v1)]) (M' := M5) rfl trivial ?_
      exact am_Wreti rfl rfl h
    · have h := hf q
      refine am_Wrun 4 (ps := []) (pc' := 24) (lv' := [(3, .inl (0)), (2, .inl (0)), (0, .inr (.inl (some 69))), (1, .inl (v1))]) (st' := []) (M' := M) rfl trivial ?_
      refine am_W_sub [2, 3, 1, 0] rfl ?_
      obtain ⟨n24, h⟩ := h
      exact tw_X6_mend_24 (tw_X6_mend_16 n) n24 v1 0 0 M h
set_option maxRecDepth 20000 in
theorem tm_X6_mend {M : am_M} {Q : Int → am_M → Prop} (h : wp_X6_mend M Q) : am_CC 8 137 [.inr (.inl (some 69))] M (am_QI Q) (fun _ _ => False) := by
  refine ⟨Nat.le_of_ble_eq_true rfl, ?_⟩
  show am_W (am_CC 7) dt_X6_mend 7 0 none (am_QI Q) (am_qx 137 (fun _ _ => False)) (0, 0, [(0, .inr (.inl (some 69)))], [], M)
  refine am_Wrun 4 (ps := []) (pc' := 6) (lv' := [(0, .inr (.inl (some 69)))]) (st' := [.inr (.inl (some 69))]) (M' := (am_up M 69 5 0)) rfl trivial ?_
  refine am_WcallV (y := 116) (n := 1) (a := 69) (f := 9) (as := []) (st' := []) rfl rfl rfl rfl rfl rfl rfl rfl rfl rfl (Nat.zero_le _) rfl (am_CC_le (Nat.le_of_ble_eq_true rfl) (tm_X6_save h)) (fun r M1 q => ?_) (fun _ _ q => q.elim)
  obtain ⟨rfl, h⟩ := q
  refine am_Wrun 1 (ps := []) (pc' := 10) (lv' := [(0, .inr (.inl (some 69)))]) (st' := [.inr (.inl (some 69))]) (M' := M1) rfl trivial ?_
  refine am_WcallV (y := 135) (n := 1) (a := 69) (f := 13) (as := []) (st' := []) rfl rfl rfl rfl rfl rfl rfl rfl rfl rfl (Nat.zero_le _) rfl (am_CC_le (Nat.le_of_ble_eq_true rfl) (tm_X6_keptMany h)) (fun r M3 q => ?_) (fun _ _ q => q.elim)
  obtain ⟨x2, rfl, h⟩ := q
  refine am_Wrun 3 (ps := []) (pc' := 16) (lv' := [(2, .inl (1)), (1, .inl (x2)), (0, .inr (.inl (some 69)))]) (st' := []) (M' := M3) rfl trivial ?_
  refine am_W_sub [2, 1, 0] rfl ?_
  obtain ⟨n16, h⟩ := h
  exact tw_X6_mend_16 n16 x2 1 M3 h
abbrev dt_X5_refuseOutside : am_D := (tk_X5_refuseOutside, 5, 2, none, tb_hn 34)
def wj_X5_refuseOutside_9 (Q : am_M → Prop) (X : am_X) (M : am_M) : Prop := X 0 M
def wp_X5_refuseOutside (a0 : Int) (a1 : Int) (M : am_M) (Q : am_M → Prop) (X : am_X) : Prop := (am_rg a0) ∧ (a0 < 0 → wj_X5_refuseOutside_9 Q X  M) ∧ (¬ a0 < 0 → (am_rg a0) ∧ (am_rg a1) ∧ (a0 ≤ a1 → Q M) ∧ (¬ a0 ≤ a1 → wj_X5_refuseOutside_9 Q X  M))
set_option maxRecDepth 20000 in
theorem tj_X5_refuseOutside_9 {Q : am_M → Prop} {X : am_X} {QX : am_X} (hX : ∀ E M, X E M → QX E M) (M : am_M) (h : wj_X5_refuseOutside_9 Q X M) : am_W (am_CC 5) dt_X5_refuseOutside 5 0 none (am_QV Q) QX (0, 9, [], [], M) := by
  exact am_Wthr (is := 335) (ic := 63) (E := 0) rfl (Nat.le_of_ble_eq_true rfl) rfl rfl rfl rfl (Or.inr ⟨rfl, rfl, rfl⟩) (hX _ _ h)
set_option maxRecDepth 20000 in
theorem tm_X5_refuseOutside {a0 a1 : Int} {M : am_M} {Q : am_M → Prop} {X : am_X} (h : wp_X5_refuseOutside a0 a1 M Q X) : am_CC 6 34 [.inl (a0), .inl (a1)] M (am_QV Q) X := by
  refine ⟨Nat.le_of_ble_eq_true rfl, ?_⟩
  show am_W (am_CC 5) dt_X5_refuseOutside 5 0 none (am_QV Q) (am_qx 34 X) (0, 0, [(0, .inl (a0)), (1, .inl (a1))], [], M)
  have hX : ∀ E M, X E M → am_qx 34 X E M := fun E M q => ⟨⟨rfl, by decide⟩, q⟩
  refine am_Wrun 1 (ps := []) (pc' := 1) (lv' := [(0, .inl (a0)), (1, .inl (a1))]) (st' := [.inl (a0)]) (M' := M) rfl trivial ?_
  obtain ⟨b0, ht, hf⟩ := h
  refine am_Wbr (P := [am_rg a0]) (c := a0 < 0) (t := 9) (f := 4) (st' := []) rfl rfl ⟨b0, trivial⟩ rfl (fun q => ?_) (fun q => ?_)
  · have h := ht q
    refine am_W_sub [] rfl ?_
    exact tj_X5_refuseOutside_9 hX  M h
  · have h := hf q
    refine am_Wrun 2 (ps := []) (pc' := 6) (lv' := [(0, .inl (a0)), (1, .inl (a1))]) (st' := [.inl (a1), .inl (a0)]) (M' := M) rfl trivial ?_
    obtain ⟨b0, b1, ht, hf⟩ := h
    refine am_Wbr (P := [am_rg a0, am_rg a1]) (c := a0 ≤ a1) (t := 20) (f := 9) (st' := []) rfl rfl ⟨b0, b1, trivial⟩ rfl (fun q => ?_) (fun q => ?_)
    · have h := ht q
      exact am_Wretv rfl rfl h
    · have h := hf q
      refine am_W_sub [] rfl ?_
      exact tj_X5_refuseOutside_9 hX  M h
abbrev dt_X5_refuseNoWay : am_D := (tk_X5_refuseNoWay, 5, 1, none, tb_hn 64)
def wp_X5_refuseNoWay (a0 : Int) (M : am_M) (Q : am_M → Prop) (X : am_X) : Prop := wp_X5_refuseOutside a0 2 M (fun M1 => Q M1) X
set_option maxRecDepth 20000 in
theorem tm_X5_refuseNoWay {a0 : Int} {M : am_M} {Q : am_M → Prop} {X : am_X} (h : wp_X5_refuseNoWay a0 M Q X) : am_CC 7 64 [.inl (a0)] M (am_QV Q) X := by
  refine ⟨Nat.le_of_ble_eq_true rfl, ?_⟩
  show am_W (am_CC 6) dt_X5_refuseNoWay 6 0 none (am_QV Q) (am_qx 64 X) (0, 0, [(0, .inl (a0))], [], M)
  have hX : ∀ E M, X E M → am_qx 64 X E M := fun E M q => ⟨⟨rfl, by decide⟩, q⟩
  refine am_Wrun 2 (ps := []) (pc' := 2) (lv' := [(0, .inl (a0))]) (st' := [.inl (2), .inl (a0)]) (M' := M) rfl trivial ?_
  refine am_WcallS (y := 34) (n := 2) (f := 5) (co := 0) (as := [.inl (a0), .inl (2)]) (st' := []) rfl rfl rfl rfl rfl rfl rfl rfl rfl (Nat.zero_le _) rfl (am_CC_le (Nat.le_of_ble_eq_true rfl) (tm_X5_refuseOutside h)) (fun r M1 q => ?_) (fun E M q => hX _ _ q)
  obtain ⟨rfl, h⟩ := q
  exact am_Wretv rfl rfl h
abbrev dt_X4_cell : am_D := (tk_X4_cell, 4, 3, some .int, tb_hn 57)
def wj_X4_cell_25 (Q : Int → am_M → Prop) (v0 : Int) (v1 : Int) (s0 : Int) (M : am_M) : Prop := (am_rg s0) ∧ (s0 = 0 → Q 0 M) ∧ (¬ s0 = 0 → Q ((v0 * 60) + v1) M)
def wj_X4_cell_24 (Q : Int → am_M → Prop) (v0 : Int) (v1 : Int) (M : am_M) : Prop := wj_X4_cell_25 Q v0 v1 0 M
def wp_X4_cell (a0 : Int) (a1 : Int) (M : am_M) (Q : Int → am_M → Prop) : Prop := (am_rg a0) ∧ (a0 < 0 → wj_X4_cell_24 Q a0 a1 M) ∧ (¬ a0 < 0 → (am_rg a0) ∧ (60 ≤ a0 → wj_X4_cell_24 Q a0 a1 M) ∧ (¬ 60 ≤ a0 → (am_rg a1) ∧ (a1 < 0 → wj_X4_cell_24 Q a0 a1 M) ∧ (¬ a1 < 0 → (am_rg a1) ∧ (60 ≤ a1 → wj_X4_cell_24 Q a0 a1 M) ∧ (¬ 60 ≤ a1 → wj_X4_cell_25 Q a0 a1 1 M))))
set_option maxRecDepth 20000 in
theorem tj_X4_cell_25 {Q : Int → am_M → Prop} {QX : am_X} (v0 : Int) (v1 : Int) (s0 : Int) (M : am_M) (h : wj_X4_cell_25 Q v0 v1 s0 M) : am_W (am_CC 0) dt_X4_cell 0 0 none (am_QI Q) QX (0, 25, [(0, .inl (v0)), (1, .inl (v1))], [.inl (s0)], M) := by
  refine am_Wrun 2 (ps := []) (pc' := 27) (lv' := [(2, .inl (s0)), (0, .inl (v0)), (1, .inl (v1))]) (st' := [.inl (s0)]) (M' := M) rfl trivial ?_
  obtain ⟨b0, ht, hf⟩ := h
  refine am_Wbr (P := [am_rg s0]) (c := s0 = 0) (t := 39) (f := 30) (st' := []) rfl rfl ⟨b0, trivial⟩ rfl (fun q => ?_) (fun q => ?_)
  · have h := ht q
    refine am_Wrun 1 (ps := []) (pc' := 40) (lv' := [(2, .inl (s0)), (0, .inl (v0)), (1, .inl (v1))]) (st' := [.inl (0)]) (M' := M) rfl trivial ?_
    exact am_Wreti rfl rfl h
  · have h := hf q
    refine am_Wrun 6 (ps := [-128 ≤ (60 : Int) ∧ (60 : Int) ≤ 127]) (pc' := 40) (lv' := [(2, .inl (s0)), (0, .inl (v0)), (1, .inl (v1))]) (st' := [.inl ((v0 * 60) + v1)]) (M' := M) rfl ⟨⟨by decide, by decide⟩, trivial⟩ ?_
    exact am_Wreti rfl rfl h
set_option maxRecDepth 20000 in
theorem tj_X4_cell_24 {Q : Int → am_M → Prop} {QX : am_X} (v0 : Int) (v1 : Int) (M : am_M) (h : wj_X4_cell_24 Q v0 v1 M) : am_W (am_CC 0) dt_X4_cell 0 0 none (am_QI Q) QX (0, 24, [(0, .inl (v0)), (1, .inl (v1))], [], M) := by
  refine am_Wrun 1 (ps := []) (pc' := 25) (lv' := [(0, .inl (v0)), (1, .inl (v1))]) (st' := [.inl (0)]) (M' := M) rfl trivial ?_
  refine am_W_sub [0, 1] rfl ?_
  exact tj_X4_cell_25 v0 v1 0 M h
set_option maxRecDepth 20000 in
theorem tm_X4_cell {a0 a1 : Int} {M : am_M} {Q : Int → am_M → Prop} (h : wp_X4_cell a0 a1 M Q) : am_CC 1 57 [.inl (a0), .inl (a1)] M (am_QI Q) (fun _ _ => False) := by
  refine ⟨Nat.le_of_ble_eq_true rfl, ?_⟩
  show am_W (am_CC 0) dt_X4_cell 0 0 none (am_QI Q) (am_qx 57 (fun _ _ => False)) (0, 0, [(0, .inl (a0)), (1, .inl (a1))], [], M)
  refine am_Wrun 1 (ps := []) (pc' := 1) (lv' := [(0, .inl (a0)), (1, .inl (a1))]) (st' := [.inl (a0)]) (M' := M) rfl trivial ?_
  obtain ⟨b0, ht, hf⟩ := h
  refine am_Wbr (P := [am_rg a0]) (c := a0 < 0) (t := 24) (f := 4) (st' := []) rfl rfl ⟨b0, trivial⟩ rfl (fun q => ?_) (fun q => ?_)
  · have h := ht q
    refine am_W_sub [0, 1] rfl ?_
    exact tj_X4_cell_24 a0 a1 M h
  · have h := hf q
    refine am_Wrun 2 (ps := [-128 ≤ (60 : Int) ∧ (60 : Int) ≤ 127]) (pc' := 7) (lv' := [(0, .inl (a0)), (1, .inl (a1))]) (st' := [.inl (60), .inl (a0)]) (M' := M) rfl ⟨⟨by decide, by decide⟩, trivial⟩ ?_
    obtain ⟨b0, ht, hf⟩ := h
    refine am_Wbr (P := [am_rg a0, am_rg 60]) (c := 60 ≤ a0) (t := 24) (f := 10) (st' := []) rfl rfl ⟨b0, (am_rgd rfl), trivial⟩ rfl (fun q => ?_) (fun q => ?_)
    · have h := ht q
      refine am_W_sub [0, 1] rfl ?_
      exact tj_X4_cell_24 a0 a1 M h
    · have h := hf q
      refine am_Wrun 1 (ps := []) (pc' := 11) (lv' := [(0, .inl (a0)), (1, .inl (a1))]) (st' := [.inl (a1)]) (M' := M) rfl trivial ?_
      obtain ⟨b0, ht, hf⟩ := h
      refine am_Wbr (P := [am_rg a1]) (c := a1 < 0) (t := 24) (f := 14) (st' := []) rfl rfl ⟨b0, trivial⟩ rfl (fun q => ?_) (fun q => ?_)
      · have h := ht q
        refine am_W_sub [0, 1] rfl ?_
        exact tj_X4_cell_24 a0 a1 M h
      · have h := hf q
        refine am_Wrun 2 (ps := [-128 ≤ (60 : Int) ∧ (60 : Int) ≤ 127]) (pc' := 17) (lv' := [(0, .inl (a0)), (1, .inl (a1))]) (st' := [.inl (60), .inl (a1)]) (M' := M) rfl ⟨⟨by decide, by decide⟩, trivial⟩ ?_
        obtain ⟨b0, ht, hf⟩ := h
        refine am_Wbr (P := [am_rg a1, am_rg 60]) (c := 60 ≤ a1) (t := 24) (f := 20) (st' := []) rfl rfl ⟨b0, (am_rgd rfl), trivial⟩ rfl (fun q => ?_) (fun q => ?_)
        · have h := ht q
          refine am_W_sub [0, 1] rfl ?_
          exact tj_X4_cell_24 a0 a1 M h
        · have h := hf q
          refine am_Wrun 2 (ps := []) (pc' := 25) (lv' := [(0, .inl (a0)), (1, .inl (a1))]) (st' := [.inl (1)]) (M' := M) rfl trivial ?_
          refine am_W_sub [0, 1] rfl ?_
          exact tj_X4_cell_25 a0 a1 1 M h
abbrev dt_X5_roundedUp : am_D := (tk_X5_roundedUp, 5, 2, some .int, tb_hn 40)
def wp_X5_roundedUp (a0 : Int) (a1 : Int) (M : am_M) (Q : Int → am_M → Prop) : Prop := (am_rg a1) ∧ (a1 ≤ 0 → Q 0 M) ∧ (¬ a1 ≤ 0 → (am_rg ((a0 + a1) - 1) ∧ am_rg a1 ∧ (0 : Int) < a1) ∧ (Q (Int.tdiv ((a0 + a1) - 1) a1) M))
set_option maxRecDepth 20000 in
theorem tm_X5_roundedUp {a0 a1 : Int} {M : am_M} {Q : Int → am_M → Prop} (h : wp_X5_roundedUp a0 a1 M Q) : am_CC 1 40 [.inl (a0), .inl (a1)] M (am_QI Q) (fun _ _ => False) := by
  refine ⟨Nat.le_of_ble_eq_true rfl, ?_⟩
  show am_W (am_CC 0) dt_X5_roundedUp 0 0 none (am_QI Q) (am_qx 40 (fun _ _ => False)) (0, 0, [(0, .inl (a0)), (1, .inl (a1))], [], M)
  refine am_Wrun 1 (ps := []) (pc' := 1) (lv' := [(0, .inl (a0)), (1, .inl (a1))]) (st' := [.inl (a1)]) (M' := M) rfl trivial ?_
  obtain ⟨b0, ht, hf⟩ := h
  refine am_Wbr (P := [am_rg a1]) (c := a1 ≤ 0) (t := 14) (f := 4) (st' := []) rfl rfl ⟨b0, trivial⟩ rfl (fun q => ?_) (fun q => ?_)
  · have h := ht q
    refine am_Wrun 1 (ps := []) (pc' := 15) (lv' := [(0, .inl (a0)), (1, .inl (a1))]) (st' := [.inl (0)]) (M' := M) rfl trivial ?_
    exact am_Wreti rfl rfl h
  · have h := hf q
    obtain ⟨c0_0, h⟩ := h
    refine am_Wrun 8 (ps := [am_rg ((a0 + a1) - 1) ∧ am_rg a1 ∧ (0 : Int) < a1]) (pc' := 15) (lv' := [(0, .inl (a0)), (1, .inl (a1))]) (st' := [.inl (Int.tdiv ((a0 + a1) - 1) a1)]) (M' := M) rfl ⟨c0_0, trivial⟩ ?_
    exact am_Wreti rfl rfl h
abbrev dt_X4_findNeeds : am_D := (tk_X4_findNeeds, 4, 3, none, tb_hn 56)
def wl_X4_findNeeds_25 (Q : am_M → Prop) (k10 : Int → am_M → Prop) : Nat → Int → Int → am_M → Prop
  | 0, _, _, _ => False
  | n + 1, v1, v2, M => (am_rg v2) ∧ (am_rg (M 1 7)) ∧ ((M 1 7) ≤ v2 → k10 (v1 + 1) M) ∧ (¬ (M 1 7) ≤ v2 → wp_X2_sameStretch v1 v2 M (fun x1 M2 => (am_rg x1) ∧ (x1 = 0 → k10 (v1 + 1) M2) ∧ (¬ x1 = 0 → wp_X1_findWorst v1 v2 M2 (fun x3 M4 => wp_X4_cell v1 v2 M4 (fun x5 M6 => wp_X5_roundedUp (M6 9 1) (M6 9 2) M6 (fun x7 M8 => (0 ≤ (x5 : Int) ∧ (x5 : Int) < 3600) ∧ (wl_X4_findNeeds_25 Q k10 n v1 (v2 + 1) (am_up M8 13 x5 x7))))))))
def wl_X4_findNeeds_10 (Q : am_M → Prop) : Nat → Int → am_M → Prop
  | 0, _, _ => False
  | n + 1, v1, M => (am_rg v1) ∧ (am_rg (M 1 7)) ∧ ((M 1 7) ≤ v1 → Q (am_up M 10 5 1)) ∧ (¬ (M 1 7) ≤ v1 → ∃ e25, wl_X4_findNeeds_25 Q (wl_X4_findNeeds_10 Q n) e25 v1 (v1 + 1) M)
def wp_X4_findNeeds (M : am_M) (Q : am_M → Prop) : Prop := (am_rg (M 10 5)) ∧ ((M 10 5) = 0 → ∃ e10, wl_X4_findNeeds_10 Q e10 0 M) ∧ (¬ (M 10 5) = 0 → Q M)
set_option maxRecDepth 20000 in
theorem tw_X4_findNeeds_25 {Q : am_M → Prop} {QX : am_X} {k10 : Int → am_M → Prop} (hk10 : ∀ (v1 : Int) (M : am_M), k10 v1 M → am_W (am_CC 2) dt_X4_findNeeds 2 0 none (am_QV Q) QX (0, 10, [(0, .inr (.inl (some 10))), (1, .inl (v1))], [], M)) : ∀ (n : Nat) (v1 : Int) (v2 : Int) (M : am_M), wl_X4_findNeeds_25 Q k10 n v1 v2 M → am_W (am_CC 2) dt_X4_findNeeds 2 0 none (am_QV Q) QX (0, 25, [(0, .inr (.inl (some 10))), (1, .inl (v1)), (2, .inl (v2))], [], M)
  | 0, _, _, _, h => h.elim
  | n + 1, v1, v2, M, h => by
    refine am_Wrun 4 (ps := []) (pc' := 33) (lv' := [(0, .inr (.inl (some 10))), (1, .inl (v1)), (2, .inl (v2))]) (st' := [.inl (M 1 7), .inl (v2)]) (M' := M) rfl trivial ?_
    obtain ⟨b0, b1, ht, hf⟩ := h
    refine am_Wbr (P := [am_rg v2, am_rg (M 1 7)]) (c := (M 1 7) ≤ v2) (t := 91) (f := 36) (st' := []) rfl rfl ⟨b0, b1, trivial⟩ rfl (fun q => ?_) (fun q => ?_)
    · have h := ht q
      refine am_Wrun 2 (ps := []) (pc' := 10) (lv' := [(1, .inl (v1 + 1)), (0, .inr (.inl (some 10))), (2, .inl (v2))]) (st' := []) (M' := M) rfl trivial ?_
      refine am_W_sub [1, 0] rfl ?_
      exact hk10 (v1 + 1) M h
    · have h := hf q
      refine am_Wrun 4 (ps := []) (pc' := 42) (lv' := [(0, .inr (.inl (some 10))), (1, .inl (v1)), (2, .inl (v2))]) (st' := [.inl (v2), .inl (v1), .inr (.inl (some 1))]) (M' := M) rfl trivial ?_
      refine am_WcallV (y := 12) (n := 3) (a := 1) (f := 45) (as := [.inl (v1), .inl (v2)]) (st' := []) rfl rfl rfl rfl rfl rfl rfl rfl rfl rfl (Nat.zero_le _) rfl (am_CC_le (Nat.le_of_ble_eq_true rfl) (tm_X2_sameStretch h)) (fun r M2 q => ?_) (fun _ _ q => q.elim)
      obtain ⟨x1, rfl, h⟩ := q
      obtain ⟨b0, ht, hf⟩ := h
      refine am_Wbr (P := [am_rg x1]) (c := x1 = 0) (t := 91) (f := 48) (st' := []) rfl rfl ⟨b0, trivial⟩ rfl (fun q => ?_) (fun q => ?_)
      · have h := ht q
        refine am_Wrun 2 (ps := []) (pc' := 10) (lv' := [(1, .inl (v1 + 1)), (0, .inr (.inl (some 10))), (2, .inl (v2))]) (st' := []) (M' := M2) rfl trivial ?_
        refine am_W_sub [1, 0] rfl ?_
        exact hk10 (v1 + 1) M2 h
      · have h := hf q
        refine am_Wrun 4 (ps := []) (pc' := 54) (lv' := [(0, .inr (.inl (some 10))), (1, .inl (v1)), (2, .inl (v2))]) (st' := [.inl (v2), .inl (v1), .inr (.inl (some 9))]) (M' := M2) rfl trivial ?_
        refine am_WcallV (y := 47) (n := 3) (a := 9) (f := 57) (as := [.inl (v1), .inl (v2)]) (st' := []) rfl rfl rfl rfl rfl rfl rfl rfl rfl rfl (Nat.zero_le _) rfl (am_CC_le (Nat.le_of_ble_eq_true rfl) (tm_X1_findWorst h)) (fun r M4 q => ?_) (fun _ _ q => q.elim)
        obtain ⟨x3, rfl, h⟩ := q
        refine am_Wrun 5 (ps := []) (pc' := 64) (lv' := [(0, .inr (.inl (some 10))), (1, .inl (v1)), (2, .inl (v2))]) (st' := [.inl (v2), .inl (v1), .inr (.inl (some 13))]) (M' := M4) rfl trivial ?_
        refine am_WcallS (y := 57) (n := 2) (f := 67) (co := 0) (as := [.inl (v1), .inl (v2)]) (st' := [.inr (.inl (some 13))]) rfl rfl rfl rfl rfl rfl rfl rfl rfl (Nat.zero_le _) rfl (am_CC_le (Nat.le_of_ble_eq_true rfl) (tm_X4_cell h)) (fun r M6 q => ?_) (fun _ _ q => q.elim)
        obtain ⟨x5, rfl, h⟩ := q
        refine am_Wrun 6 (ps := []) (pc' := 81) (lv' := [(0, .inr (.inl (some 10))), (1, .inl (v1)), (2, .inl (v2))]) (st' := [.inl (M6 9 2), .inl (M6 9 1), .inl (x5), .inr (.inl (some 13))]) (M' := M6) rfl trivial ?_
        refine am_WcallS (y := 40) (n := 2) (f := 84) (co := 0) (as := [.inl (M6 9 1), .inl (M6 9 2)]) (st' := [.inl (x5), .inr (.inl (some 13))]) rfl rfl rfl rfl rfl rfl rfl rfl rfl (Nat.zero_le _) rfl (am_CC_le (Nat.le_of_ble_eq_true rfl) (tm_X5_roundedUp h)) (fun r M8 q => ?_) (fun _ _ q => q.elim)
        obtain ⟨x7, rfl, h⟩ := q
        obtain ⟨c0_0, h⟩ := h
        refine am_Wrun 3 (ps := [0 ≤ (x5 : Int) ∧ (x5 : Int) < 3600]) (pc' := 25) (lv' := [(2, .inl (v2 + 1)), (0, .inr (.inl (some 10))), (1, .inl (v1))]) (st' := []) (M' := (am_up M8 13 x5 x7)) rfl ⟨c0_0, trivial⟩ ?_
        refine am_W_sub [1, 2, 0] rfl ?_
        exact tw_X4_findNeeds_25 hk10 n v1 (v2 + 1) (am_up M8 13 x5 x7) h
set_option maxRecDepth 20000 in
theorem tw_X4_findNeeds_10 {Q : am_M → Prop} {QX : am_X} : ∀ (n : Nat) (v1 : Int) (M : am_M), wl_X4_findNeeds_10 Q n v1 M → am_W (am_CC 2) dt_X4_findNeeds 2 0 none (am_QV Q) QX (0, 10, [(0, .inr (.inl (some 10))), (1, .inl (v1))], [], M)
  | 0, _, _, h => h.elim
  | n + 1, v1, M, h => by
    refine am_Wrun 4 (ps := []) (pc' := 18) (lv' := [(0, .inr (.inl (some 10))), (1, .inl (v1))]) (st' := [.inl (M 1 7), .inl (v1)]) (M' := M) rfl trivial ?_
    obtain ⟨b0, b1, ht, hf⟩ := h
    refine am_Wbr (P := [am_rg v1, am_rg (M 1 7)]) (c := (M 1 7) ≤ v1) (t := 97) (f := 21) (st' := []) rfl rfl ⟨b0, b1, trivial⟩ rfl (fun q => ?_) (fun q => ?_)
    · have h := ht q
      refine am_Wrun 3 (ps := [1 = 0 ∨ 1 = 1]) (pc' := 102) (lv' := [(0, .inr (.inl (some 10))), (1, .inl (v1))]) (st' := []) (M' := (am_up M 10 5 1)) rfl ⟨(Or.inr rfl), trivial⟩ ?_
      exact am_Wretv rfl rfl h
    · have h := hf q
      refine am_Wrun 4 (ps := []) (pc' := 25) (lv' := [(2, .inl (v1 + 1)), (0, .inr (.inl (some 10))), (1, .inl (v1))]) (st' := []) (M' := M) rfl trivial ?_
      refine am_W_sub [1, 2, 0] rfl ?_
      obtain ⟨n25, h⟩ := h
      exact tw_X4_findNeeds_25 (tw_X4_findNeeds_10 n) n25 v1 (v1 + 1) M h
set_option maxRecDepth 20000 in
theorem tm_X4_findNeeds {M : am_M} {Q : am_M → Prop} (h : wp_X4_findNeeds M Q) : am_CC 3 56 [.inr (.inl (some 10))] M (am_QV Q) (fun _ _ => False) := by
  refine ⟨Nat.le_of_ble_eq_true rfl, ?_⟩
  show am_W (am_CC 2) dt_X4_findNeeds 2 0 none (am_QV Q) (am_qx 56 (fun _ _ => False)) (0, 0, [(0, .inr (.inl (some 10)))], [], M)
  refine am_Wrun 2 (ps := []) (pc' := 4) (lv' := [(0, .inr (.inl (some 10)))]) (st' := [.inl (M 10 5)]) (M' := M) rfl trivial ?_
  obtain ⟨b0, ht, hf⟩ := h
  refine am_Wbr (P := [am_rg (M 10 5)]) (c := (M 10 5) = 0) (t := 8) (f := 7) (st' := []) rfl rfl ⟨b0, trivial⟩ rfl (fun q => ?_) (fun q => ?_)
  · have h := ht q
    refine am_Wrun 2 (ps := []) (pc' := 10) (lv' := [(1, .inl (0)), (0, .inr (.inl (some 10)))]) (st' := []) (M' := M) rfl trivial ?_
    refine am_W_sub [1, 0] rfl ?_
    obtain ⟨n10, h⟩ := h
    exact tw_X4_findNeeds_10 n10 0 M h
  · have h := hf q
    exact am_Wretv rfl rfl h
abbrev dt_X4_joinBehind : am_D := (tk_X4_joinBehind, 4, 6, none, tb_hn 69)
def wj_X4_joinBehind_81 (Q : am_M → Prop) (v4 : Int) (M : am_M) : Prop := wp_X2_hasPoint v4 M (fun x1 M2 => (am_rg x1) ∧ (x1 = 0 → Q M2) ∧ (¬ x1 = 0 → (0 ≤ (v4 : Int) ∧ (v4 : Int) < 60) ∧ (Q (am_up M2 11 v4 1))))
def wl_X4_joinBehind_9 (Q : am_M → Prop) : Nat → Int → Int → Int → Int → Int → am_M → Prop
  | 0, _, _, _, _, _, _ => False
  | n + 1, v1, v2, v3, v4, v5, M => (am_rg v5) ∧ (am_rg (M 1 7)) ∧ ((M 1 7) ≤ v5 → wj_X4_joinBehind_81 Q v4 M) ∧ (¬ (M 1 7) ≤ v5 → wp_X2_sameStretch v1 v5 M (fun x3 M4 => (am_rg x3) ∧ (x3 = 0 → wj_X4_joinBehind_81 Q v4 M4) ∧ (¬ x3 = 0 → wp_X4_cell v1 v5 M4 (fun x5 M6 => (0 ≤ (x5 : Int) ∧ (x5 : Int) < 3600) ∧ ((am_rg (M6 13 x5)) ∧ (am_rg v3) ∧ (v3 < (M6 13 x5) → wl_X4_joinBehind_9 Q n v1 v2 v3 v4 (v5 + 1) M6) ∧ (¬ v3 < (M6 13 x5) → (am_rg v2) ∧ (v2 = 0 → wl_X4_joinBehind_9 Q n v1 v2 v3 v5 (v5 + 1) M6) ∧ (¬ v2 = 0 → (0 ≤ (v5 : Int) ∧ (v5 : Int) < 60) ∧ (0 ≤ (v1 : Int) ∧ (v1 : Int) < 60) ∧ ((am_rg ((M6 12 v5) + 1)) ∧ (am_rg (M6 12 v1)) ∧ (¬ ((M6 12 v5) + 1) = (M6 12 v1) → wl_X4_joinBehind_9 Q n v1 v2 v3 v4 (v5 + 1) M6) ∧ (¬ (¬ ((M6 12 v5) + 1) = (M6 12 v1)) → wl_X4_joinBehind_9 Q n v1 v2 v3 v5 (v5 + 1) M6)))))))))
def wp_X4_joinBehind (a0 : Int) (a1 : Int) (a2 : Int) (M : am_M) (Q : am_M → Prop) : Prop := ∃ e9, wl_X4_joinBehind_9 Q e9 a0 a1 a2 (-1000000) (a0 + 1) M
set_option maxRecDepth 20000 in
theorem tj_X4_joinBehind_81 {Q : am_M → Prop} {QX : am_X} (v4 : Int) (M : am_M) (h : wj_X4_joinBehind_81 Q v4 M) : am_W (am_CC 1) dt_X4_joinBehind 1 0 none (am_QV Q) QX (0, 81, [(0, .inr (.inl (some 10))), (4, .inl (v4))], [], M) := by
  refine am_Wrun 3 (ps := []) (pc' := 87) (lv' := [(0, .inr (.inl (some 10))), (4, .inl (v4))]) (st' := [.inl (v4), .inr (.inl (some 1))]) (M' := M) rfl trivial ?_
  refine am_WcallV (y := 9) (n := 2) (a := 1) (f := 90) (as := [.inl (v4)]) (st' := []) rfl rfl rfl rfl rfl rfl rfl rfl rfl rfl (Nat.zero_le _) rfl (am_CC_le (Nat.le_of_ble_eq_true rfl) (tm_X2_hasPoint h)) (fun r M2 q => ?_) (fun _ _ q => q.elim)
  obtain ⟨x1, rfl, h⟩ := q
  obtain ⟨b0, ht, hf⟩ := h
  refine am_Wbr (P := [am_rg x1]) (c := x1 = 0) (t := 101) (f := 93) (st' := []) rfl rfl ⟨b0, trivial⟩ rfl (fun q => ?_) (fun q => ?_)
  · have h := ht q
    exact am_Wretv rfl rfl h
  · have h := hf q
    obtain ⟨c0_0, h⟩ := h
    refine am_Wrun 5 (ps := [0 ≤ (v4 : Int) ∧ (v4 : Int) < 60]) (pc' := 101) (lv' := [(0, .inr (.inl (some 10))), (4, .inl (v4))]) (st' := []) (M' := (am_up M2 11 v4 1)) rfl ⟨c0_0, trivial⟩ ?_
    exact am_Wretv rfl rfl h
set_option maxRecDepth 20000 in
theorem tw_X4_joinBehind_9 {Q : am_M → Prop} {QX : am_X} : ∀ (n : Nat) (v1 : Int) (v2 : Int) (v3 : Int) (v4 : Int) (v5 : Int) (M : am_M), wl_X4_joinBehind_9 Q n v1 v2 v3 v4 v5 M → am_W (am_CC 1) dt_X4_joinBehind 1 0 none (am_QV Q) QX (0, 9, [(0, .inr (.inl (some 10))), (1, .inl (v1)), (2, .inl (v2)), (3, .inl (v3)), (4, .inl (v4)), (5, .inl (v5))], [], M)
  | 0, _, _, _, _, _, _, h => h.elim
  | n + 1, v1, v2, v3, v4, v5, M, h => by
    refine am_Wrun 4 (ps := []) (pc' := 18) (lv' := [(0, .inr (.inl (some 10))), (1, .inl (v1)), (2, .inl (v2)), (3, .inl (v3)), (4, .inl (v4)), (5, .inl (v5))]) (st' := [.inl (M 1 7), .inl (v5)]) (M' := M) rfl trivial ?_
    obtain ⟨b0, b1, ht, hf⟩ := h
    refine am_Wbr (P := [am_rg v5, am_rg (M 1 7)]) (c := (M 1 7) ≤ v5) (t := 81) (f := 21) (st' := []) rfl rfl ⟨b0, b1, trivial⟩ rfl (fun q => ?_) (fun q => ?_)
    · have h := ht q
      refine am_W_sub [0, 4] rfl ?_
      exact tj_X4_joinBehind_81 v4 M h
    · have h := hf q
      refine am_Wrun 4 (ps := []) (pc' := 28) (lv' := [(0, .inr (.inl (some 10))), (1, .inl (v1)), (2, .inl (v2)), (3, .inl (v3)), (4, .inl (v4)), (5, .inl (v5))]) (st' := [.inl (v5), .inl (v1), .inr (.inl (some 1))]) (M' := M) rfl trivial ?_
      refine am_WcallV (y := 12) (n := 3) (a := 1) (f := 31) (as := [.inl (v1), .inl (v5)]) (st' := []) rfl rfl rfl rfl rfl rfl rfl rfl rfl rfl (Nat.zero_le _) rfl (am_CC_le (Nat.le_of_ble_eq_true rfl) (tm_X2_sameStretch h)) (fun r M4 q => ?_) (fun _ _ q => q.elim)
      obtain ⟨x3, rfl, h⟩ := q
      obtain ⟨b0, ht, hf⟩ := h
      refine am_Wbr (P := [am_rg x3]) (c := x3 = 0) (t := 81) (f := 34) (st' := []) rfl rfl ⟨b0, trivial⟩ rfl (fun q => ?_) (fun q => ?_)
      · have h := ht q
        refine am_W_sub [0, 4] rfl ?_
        exact tj_X4_joinBehind_81 v4 M4 h
      · have h := hf q
        refine am_Wrun 4 (ps := []) (pc' := 41) (lv' := [(0, .inr (.inl (some 10))), (1, .inl (v1)), (2, .inl (v2)), (3, .inl (v3)), (4, .inl (v4)), (5, .inl (v5))]) (st' := [.inl (v5), .inl (v1), .inr (.inl (some 13))]) (M' := M4) rfl trivial ?_
        refine am_WcallS (y := 57) (n := 2) (f := 44) (co := 0) (as := [.inl (v1), .inl (v5)]) (st' := [.inr (.inl (some 13))]) rfl rfl rfl rfl rfl rfl rfl rfl rfl (Nat.zero_le _) rfl (am_CC_le (Nat.le_of_ble_eq_true rfl) (tm_X4_cell h)) (fun r M6 q => ?_) (fun _ _ q => q.elim)
        obtain ⟨x5, rfl, h⟩ := q
        obtain ⟨c0_0, h⟩ := h
        refine am_Wrun 2 (ps := [0 ≤ (x5 : Int) ∧ (x5 : Int) < 3600]) (pc' := 46) (lv' := [(0, .inr (.inl (some 10))), (1, .inl (v1)), (2, .inl (v2)), (3, .inl (v3)), (4, .inl (v4)), (5, .inl (v5))]) (st' := [.inl (v3), .inl (M6 13 x5)]) (M' := M6) rfl ⟨c0_0, trivial⟩ ?_
        obtain ⟨b0, b1, ht, hf⟩ := h
        refine am_Wbr (P := [am_rg (M6 13 x5), am_rg v3]) (c := v3 < (M6 13 x5)) (t := 75) (f := 49) (st' := []) rfl rfl ⟨b0, b1, trivial⟩ rfl (fun q => ?_) (fun q => ?_)
        · have h := ht q
          refine am_Wrun 2 (ps := []) (pc' := 9) (lv' := [(5, .inl (v5 + 1)), (0, .inr (.inl (some 10))), (1, .inl (v1)), (2, .inl (v2)), (3, .inl (v3)), (4, .inl (v4))]) (st' := []) (M' := M6) rfl trivial ?_
          refine am_W_sub [1, 2, 3, 4, 5, 0] rfl ?_
          exact tw_X4_joinBehind_9 n v1 v2 v3 v4 (v5 + 1) M6 h
        · have h := hf q
          refine am_Wrun 1 (ps := []) (pc' := 50) (lv' := [(0, .inr (.inl (some 10))), (1, .inl (v1)), (2, .inl (v2)), (3, .inl (v3)), (4, .inl (v4)), (5, .inl (v5))]) (st' := [.inl (v2)]) (M' := M6) rfl trivial ?_
          obtain ⟨b0, ht, hf⟩ := h
          refine am_Wbr (P := [am_rg v2]) (c := v2 = 0) (t := 71) (f := 53) (st' := []) rfl rfl ⟨b0, trivial⟩ rfl (fun q => ?_) (fun q => ?_)
          · have h := ht q
            refine am_Wrun 4 (ps := []) (pc' := 9) (lv' := [(5, .inl (v5 + 1)), (4, .inl (v5)), (0, .inr (.inl (some 10))), (1, .inl (v1)), (2, .inl (v2)), (3, .inl (v3))]) (st' := []) (M' := M6) rfl trivial ?_
            refine am_W_sub [2, 3, 4, 5, 1, 0] rfl ?_
            exact tw_X4_joinBehind_9 n v1 v2 v3 v5 (v5 + 1) M6 h
          · have h := hf q
            obtain ⟨c0_0, c1_0, h⟩ := h
            refine am_Wrun 10 (ps := [0 ≤ (v5 : Int) ∧ (v5 : Int) < 60, 0 ≤ (v1 : Int) ∧ (v1 : Int) < 60]) (pc' := 68) (lv' := [(0, .inr (.inl (some 10))), (1, .inl (v1)), (2, .inl (v2)), (3, .inl (v3)), (4, .inl (v4)), (5, .inl (v5))]) (st' := [.inl (M6 12 v1), .inl ((M6 12 v5) + 1)]) (M' := M6) rfl ⟨c0_0, c1_0, trivial⟩ ?_
            obtain ⟨b0, b1, ht, hf⟩ := h
            refine am_Wbr (P := [am_rg ((M6 12 v5) + 1), am_rg (M6 12 v1)]) (c := ¬ ((M6 12 v5) + 1) = (M6 12 v1)) (t := 75) (f := 71) (st' := []) rfl rfl ⟨b0, b1, trivial⟩ rfl (fun q => ?_) (fun q => ?_)
            · have h := ht q
              refine am_Wrun 2 (ps := []) (pc' := 9) (lv' := [(5, .inl (v5 + 1)), (0, .inr (.inl (some 10))), (1, .inl (v1)), (2, .inl (v2)), (3, .inl (v3)), (4, .inl (v4))]) (st' := []) (M' := M6) rfl trivial ?_
              refine am_W_sub [1, 2, 3, 4, 5, 0] rfl ?_
              exact tw_X4_joinBehind_9 n v1 v2 v3 v4 (v5 + 1) M6 h
            · have h := hf q
              refine am_Wrun 4 (ps := []) (pc' := 9) (lv' := [(5, .inl (v5 + 1)), (4, .inl (v5)), (0, .inr (.inl (some 10))), (1, .inl (v1)), (2, .inl (v2)), (3, .inl (v3))]) (st' := []) (M' := M6) rfl trivial ?_
              refine am_W_sub [2, 3, 4, 5, 1, 0] rfl ?_
              exact tw_X4_joinBehind_9 n v1 v2 v3 v5 (v5 + 1) M6 h
set_option maxRecDepth 20000 in
theorem tm_X4_joinBehind {a0 a1 a2 : Int} {M : am_M} {Q : am_M → Prop} (h : wp_X4_joinBehind a0 a1 a2 M Q) : am_CC 2 69 [.inr (.inl (some 10)), .inl (a0), .inl (a1), .inl (a2)] M (am_QV Q) (fun _ _ => False) := by
  refine ⟨Nat.le_of_ble_eq_true rfl, ?_⟩
  show am_W (am_CC 1) dt_X4_joinBehind 1 0 none (am_QV Q) (am_qx 69 (fun _ _ => False)) (0, 0, [(0, .inr (.inl (some 10))), (1, .inl (a0)), (2, .inl (a1)), (3, .inl (a2))], [], M)
  refine am_Wrun 6 (ps := []) (pc' := 9) (lv' := [(5, .inl (a0 + 1)), (4, .inl ((-1000000))), (0, .inr (.inl (some 10))), (1, .inl (a0)), (2, .inl (a1)), (3, .inl (a2))]) (st' := []) (M' := M) rfl trivial ?_
  refine am_W_sub [2, 3, 4, 5, 1, 0] rfl ?_
  obtain ⟨n9, h⟩ := h
  exact tw_X4_joinBehind_9 n9 a0 a1 a2 (-1000000) (a0 + 1) M h
abbrev dt_X4_chosenBehind : am_D := (tk_X4_chosenBehind, 4, 3, some .int, tb_hn 68)
def wl_X4_chosenBehind_8 (Q : Int → am_M → Prop) : Nat → Int → am_M → Prop
  | 0, _, _ => False
  | n + 1, v2, M => (am_rg v2) ∧ (am_rg (M 1 7)) ∧ ((M 1 7) ≤ v2 → Q (-1000000) M) ∧ (¬ (M 1 7) ≤ v2 → (0 ≤ (v2 : Int) ∧ (v2 : Int) < 60) ∧ ((am_rg (M 11 v2)) ∧ (¬ (M 11 v2) = 1 → wl_X4_chosenBehind_8 Q n (v2 + 1) M) ∧ (¬ (¬ (M 11 v2) = 1) → Q v2 M)))
def wp_X4_chosenBehind (a0 : Int) (M : am_M) (Q : Int → am_M → Prop) : Prop := (am_rg (a0 + 1)) ∧ (∃ e8, wl_X4_chosenBehind_8 Q e8 (if (a0 + 1) < 0 then 0 else (a0 + 1)) M)
set_option maxRecDepth 20000 in
theorem tw_X4_chosenBehind_8 {Q : Int → am_M → Prop} {QX : am_X} : ∀ (n : Nat) (v2 : Int) (M : am_M), wl_X4_chosenBehind_8 Q n v2 M → am_W (am_CC 0) dt_X4_chosenBehind 0 0 none (am_QI Q) QX (0, 8, [(0, .inr (.inl (some 10))), (2, .inl (v2))], [], M)
  | 0, _, _, h => h.elim
  | n + 1, v2, M, h => by
    refine am_Wrun 4 (ps := []) (pc' := 16) (lv' := [(0, .inr (.inl (some 10))), (2, .inl (v2))]) (st' := [.inl (M 1 7), .inl (v2)]) (M' := M) rfl trivial ?_
    obtain ⟨b0, b1, ht, hf⟩ := h
    refine am_Wbr (P := [am_rg v2, am_rg (M 1 7)]) (c := (M 1 7) ≤ v2) (t := 37) (f := 19) (st' := []) rfl rfl ⟨b0, b1, trivial⟩ rfl (fun q => ?_) (fun q => ?_)
    · have h := ht q
      refine am_Wrun 1 (ps := []) (pc' := 39) (lv' := [(0, .inr (.inl (some 10))), (2, .inl (v2))]) (st' := [.inl ((-1000000))]) (M' := M) rfl trivial ?_
      exact am_Wreti rfl rfl h
    · have h := hf q
      obtain ⟨c0_0, h⟩ := h
      refine am_Wrun 5 (ps := [0 ≤ (v2 : Int) ∧ (v2 : Int) < 60]) (pc' := 26) (lv' := [(0, .inr (.inl (some 10))), (2, .inl (v2))]) (st' := [.inl (1), .inl (M 11 v2)]) (M' := M) rfl ⟨c0_0, trivial⟩ ?_
      obtain ⟨b0, ht, hf⟩ := h
      refine am_Wbr (P := [am_rg (M 11 v2), am_rg 1]) (c := ¬ (M 11 v2) = 1) (t := 31) (f := 29) (st' := []) rfl rfl ⟨b0, (am_rgd rfl), trivial⟩ rfl (fun q => ?_) (fun q => ?_)
      · have h := ht q
        refine am_Wrun 2 (ps := []) (pc' := 8) (lv' := [(2, .inl (v2 + 1)), (0, .inr (.inl (some 10)))]) (st' := []) (M' := M) rfl trivial ?_
        refine am_W_sub [1, 0] rfl ?_
        exact tw_X4_chosenBehind_8 n (v2 + 1) M h
      · have h := hf q
        refine am_Wrun 1 (ps := []) (pc' := 30) (lv' := [(0, .inr (.inl (some 10))), (2, .inl (v2))]) (st' := [.inl (v2)]) (M' := M) rfl trivial ?_
        exact am_Wreti rfl rfl h
set_option maxRecDepth 20000 in
theorem tm_X4_chosenBehind {a0 : Int} {M : am_M} {Q : Int → am_M → Prop} (h : wp_X4_chosenBehind a0 M Q) : am_CC 1 68 [.inr (.inl (some 10)), .inl (a0)] M (am_QI Q) (fun _ _ => False) := by
  refine ⟨Nat.le_of_ble_eq_true rfl, ?_⟩
  show am_W (am_CC 0) dt_X4_chosenBehind 0 0 none (am_QI Q) (am_qx 68 (fun _ _ => False)) (0, 0, [(0, .inr (.inl (some 10))), (1, .inl (a0))], [], M)
  obtain ⟨c0_0, h⟩ := h
  refine am_Wrun 6 (ps := [am_rg (a0 + 1) ∧ am_rg 0 ∧ am_cs [] ≤ 8]) (pc' := 8) (lv' := [(2, .inl (if (a0 + 1) < 0 then 0 else (a0 + 1))), (0, .inr (.inl (some 10))), (1, .inl (a0))]) (st' := []) (M' := M) rfl ⟨⟨c0_0, (am_rgd rfl), (by decide)⟩, trivial⟩ ?_
  refine am_W_sub [1, 0] rfl ?_
  obtain ⟨n8, h⟩ := h
  exact tw_X4_chosenBehind_8 n8 (if (a0 + 1) < 0 then 0 else (a0 + 1)) M h
abbrev dt_X4_halveBehind : am_D := (tk_X4_halveBehind, 4, 6, none, tb_hn 67)
def wl_X4_halveBehind_2 (Q : am_M → Prop) : Nat → Int → Int → Int → am_M → Prop
  | 0, _, _, _, _ => False
  | n + 1, v1, v2, v3, M => (am_rg v3) ∧ (60 ≤ v3 → Q M) ∧ (¬ 60 ≤ v3 → wp_X4_chosenBehind v1 M (fun x1 M2 => wp_X2_sameStretch v1 x1 M2 (fun x3 M4 => (am_rg x3) ∧ (x3 = 0 → Q M4) ∧ (¬ x3 = 0 → wp_X4_cell v1 x1 M4 (fun x5 M6 => (0 ≤ (x5 : Int) ∧ (x5 : Int) < 3600) ∧ ((am_rg (M6 13 x5)) ∧ (am_rg v2) ∧ (v2 < (M6 13 x5) → wp_X1_findWorst v1 x1 M6 (fun x7 M8 => wp_X2_hasPoint x7 M8 (fun x9 M10 => (am_rg x9) ∧ (¬ x9 = 0 → (0 ≤ (x7 : Int) ∧ (x7 : Int) < 60) ∧ (wl_X4_halveBehind_2 Q n v1 v2 (v3 + 1) (am_up M10 11 x7 1))) ∧ (¬ (¬ x9 = 0) → Q M10)))) ∧ (¬ v2 < (M6 13 x5) → Q M6)))))))
def wp_X4_halveBehind (a0 : Int) (a1 : Int) (M : am_M) (Q : am_M → Prop) : Prop := ∃ e2, wl_X4_halveBehind_2 Q e2 a0 a1 0 M
set_option maxRecDepth 20000 in
theorem tw_X4_halveBehind_2 {Q : am_M → Prop} {QX : am_X} : ∀ (n : Nat) (v1 : Int) (v2 : Int) (v3 : Int) (M : am_M), wl_X4_halveBehind_2 Q n v1 v2 v3 M → am_W (am_CC 2) dt_X4_halveBehind 2 0 none (am_QV Q) QX (0, 2, [(0, .inr (.inl (some 10))), (1, .inl (v1)), (2, .inl (v2)), (3, .inl (v3))], [], M)
  | 0, _, _, _, _, h => h.elim
  | n + 1, v1, v2, v3, M, h => by
    refine am_Wrun 2 (ps := [-128 ≤ (60 : Int) ∧ (60 : Int) ≤ 127]) (pc' := 5) (lv' := [(0, .inr (.inl (some 10))), (1, .inl (v1)), (2, .inl (v2)), (3, .inl (v3))]) (st' := [.inl (60), .inl (v3)]) (M' := M) rfl ⟨⟨by decide, by decide⟩, trivial⟩ ?_
    obtain ⟨b0, ht, hf⟩ := h
    refine am_Wbr (P := [am_rg v3, am_rg 60]) (c := 60 ≤ v3) (t := 83) (f := 8) (st' := []) rfl rfl ⟨b0, (am_rgd rfl), trivial⟩ rfl (fun q => ?_) (fun q => ?_)
    · have h := ht q
      exact am_Wretv rfl rfl h
    · have h := hf q
      refine am_Wrun 2 (ps := []) (pc' := 10) (lv' := [(0, .inr (.inl (some 10))), (1, .inl (v1)), (2, .inl (v2)), (3, .inl (v3))]) (st' := [.inl (v1), .inr (.inl (some 10))]) (M' := M) rfl trivial ?_
      refine am_WcallV (y := 68) (n := 2) (a := 10) (f := 13) (as := [.inl (v1)]) (st' := []) rfl rfl rfl rfl rfl rfl rfl rfl rfl rfl (Nat.zero_le _) rfl (am_CC_le (Nat.le_of_ble_eq_true rfl) (tm_X4_chosenBehind h)) (fun r M2 q => ?_) (fun _ _ q => q.elim)
      obtain ⟨x1, rfl, h⟩ := q
      refine am_Wrun 5 (ps := []) (pc' := 22) (lv' := [(4, .inl (x1)), (0, .inr (.inl (some 10))), (1, .inl (v1)), (2, .inl (v2)), (3, .inl (v3))]) (st' := [.inl (x1), .inl (v1), .inr (.inl (some 1))]) (M' := M2) rfl trivial ?_
      refine am_WcallV (y := 12) (n := 3) (a := 1) (f := 25) (as := [.inl (v1), .inl (x1)]) (st' := []) rfl rfl rfl rfl rfl rfl rfl rfl rfl rfl (Nat.zero_le _) rfl (am_CC_le (Nat.le_of_ble_eq_true rfl) (tm_X2_sameStretch h)) (fun r M4 q => ?_) (fun _ _ q => q.elim)
      obtain ⟨x3, rfl, h⟩ := q
      obtain ⟨b0, ht, hf⟩ := h
      refine am_Wbr (P := [am_rg x3]) (c := x3 = 0) (t := 43) (f := 28) (st' := []) rfl rfl ⟨b0, trivial⟩ rfl (fun q => ?_) (fun q => ?_)
      · have h := ht q
        exact am_Wretv rfl rfl h
      · have h := hf q
        refine am_Wrun 4 (ps := []) (pc' := 35) (lv' := [(4, .inl (x1)), (0, .inr (.inl (some 10))), (1, .inl (v1)), (2, .inl (v2)), (3, .inl (v3))]) (st' := [.inl (x1), .inl (v1), .inr (.inl (some 13))]) (M' := M4) rfl trivial ?_
        refine am_WcallS (y := 57) (n := 2) (f := 38) (co := 0) (as := [.inl (v1), .inl (x1)]) (st' := [.inr (.inl (some 13))]) rfl rfl rfl rfl rfl rfl rfl rfl rfl (Nat.zero_le _) rfl (am_CC_le (Nat.le_of_ble_eq_true rfl) (tm_X4_cell h)) (fun r M6 q => ?_) (fun _ _ q => q.elim)
        obtain ⟨x5, rfl, h⟩ := q
        obtain ⟨c0_0, h⟩ := h
        refine am_Wrun 2 (ps := [0 ≤ (x5 : Int) ∧ (x5 : Int) < 3600]) (pc' := 40) (lv' := [(4, .inl (x1)), (0, .inr (.inl (some 10))), (1, .inl (v1)), (2, .inl (v2)), (3, .inl (v3))]) (st' := [.inl (v2), .inl (M6 13 x5)]) (M' := M6) rfl ⟨c0_0, trivial⟩ ?_
        obtain ⟨b0, b1, ht, hf⟩ := h
        refine am_Wbr (P := [am_rg (M6 13 x5), am_rg v2]) (c := v2 < (M6 13 x5)) (t := 44) (f := 43) (st' := []) rfl rfl ⟨b0, b1, trivial⟩ rfl (fun q => ?_) (fun q => ?_)
        · have h := ht q
          refine am_Wrun 4 (ps := []) (pc' := 51) (lv' := [(4, .inl (x1)), (0, .inr (.inl (some 10))), (1, .inl (v1)), (2, .inl (v2)), (3, .inl (v3))]) (st' := [.inl (x1), .inl (v1), .inr (.inl (some 9))]) (M' := M6) rfl trivial ?_
          refine am_WcallV (y := 47) (n := 3) (a := 9) (f := 54) (as := [.inl (v1), .inl (x1)]) (st' := []) rfl rfl rfl rfl rfl rfl rfl rfl rfl rfl (Nat.zero_le _) rfl (am_CC_le (Nat.le_of_ble_eq_true rfl) (tm_X1_findWorst h)) (fun r M8 q => ?_) (fun _ _ q => q.elim)
          obtain ⟨x7, rfl, h⟩ := q
          refine am_Wrun 4 (ps := []) (pc' := 62) (lv' := [(5, .inl (x7)), (4, .inl (x1)), (0, .inr (.inl (some 10))), (1, .inl (v1)), (2, .inl (v2)), (3, .inl (v3))]) (st' := [.inl (x7), .inr (.inl (some 1))]) (M' := M8) rfl trivial ?_
          refine am_WcallV (y := 9) (n := 2) (a := 1) (f := 65) (as := [.inl (x7)]) (st' := []) rfl rfl rfl rfl rfl rfl rfl rfl rfl rfl (Nat.zero_le _) rfl (am_CC_le (Nat.le_of_ble_eq_true rfl) (tm_X2_hasPoint h)) (fun r M10 q => ?_) (fun _ _ q => q.elim)
          obtain ⟨x9, rfl, h⟩ := q
          obtain ⟨b0, ht, hf⟩ := h
          refine am_Wbr (P := [am_rg x9]) (c := ¬ x9 = 0) (t := 69) (f := 68) (st' := []) rfl rfl ⟨b0, trivial⟩ rfl (fun q => ?_) (fun q => ?_)
          · have h := ht q
            obtain ⟨c0_0, h⟩ := h
            refine am_Wrun 7 (ps := [0 ≤ (x7 : Int) ∧ (x7 : Int) < 60]) (pc' := 2) (lv' := [(3, .inl (v3 + 1)), (5, .inl (x7)), (4, .inl (x1)), (0, .inr (.inl (some 10))), (1, .inl (v1)), (2, .inl (v2))]) (st' := []) (M' := (am_up M10 11 x7 1)) rfl ⟨c0_0, trivial⟩ ?_
            refine am_W_sub [3, 4, 5, 0] rfl ?_
            exact tw_X4_halveBehind_2 n v1 v2 (v3 + 1) (am_up M10 11 x7 1) h
          · have h := hf q
            exact am_Wretv rfl rfl h
        · have h := hf q
          exact am_Wretv rfl rfl h
set_option maxRecDepth 20000 in
theorem tm_X4_halveBehind {a0 a1 : Int} {M : am_M} {Q : am_M → Prop} (h : wp_X4_halveBehind a0 a1 M Q) : am_CC 3 67 [.inr (.inl (some 10)), .inl (a0), .inl (a1)] M (am_QV Q) (fun _ _ => False) := by
  refine ⟨Nat.le_of_ble_eq_true rfl, ?_⟩
  show am_W (am_CC 2) dt_X4_halveBehind 2 0 none (am_QV Q) (am_qx 67 (fun _ _ => False)) (0, 0, [(0, .inr (.inl (some 10))), (1, .inl (a0)), (2, .inl (a1))], [], M)
  refine am_Wrun 2 (ps := []) (pc' := 2) (lv' := [(3, .inl (0)), (0, .inr (.inl (some 10))), (1, .inl (a0)), (2, .inl (a1))]) (st' := []) (M' := M) rfl trivial ?_
  refine am_W_sub [1, 2, 3, 0] rfl ?_
  obtain ⟨n2, h⟩ := h
  exact tw_X4_halveBehind_2 n2 a0 a1 0 M h
abbrev dt_X2_beginsStretch : am_D := (tk_X2_beginsStretch, 2, 2, some .boolean, tb_hn 60)
def wp_X2_beginsStretch (a0 : Int) (M : am_M) (Q : Int → am_M → Prop) : Prop := wp_X2_sameStretch (a0 - 1) a0 M (fun x1 M2 => (am_rg x1) ∧ (¬ x1 = 0 → Q 0 M2) ∧ (¬ (¬ x1 = 0) → Q 1 M2))
set_option maxRecDepth 20000 in
theorem tm_X2_beginsStretch {a0 : Int} {M : am_M} {Q : Int → am_M → Prop} (h : wp_X2_beginsStretch a0 M Q) : am_CC 2 60 [.inr (.inl (some 1)), .inl (a0)] M (am_QI Q) (fun _ _ => False) := by
  refine ⟨Nat.le_of_ble_eq_true rfl, ?_⟩
  show am_W (am_CC 1) dt_X2_beginsStretch 1 0 none (am_QI Q) (am_qx 60 (fun _ _ => False)) (0, 0, [(0, .inr (.inl (some 1))), (1, .inl (a0))], [], M)
  refine am_Wrun 5 (ps := []) (pc' := 5) (lv' := [(0, .inr (.inl (some 1))), (1, .inl (a0))]) (st' := [.inl (a0), .inl (a0 - 1), .inr (.inl (some 1))]) (M' := M) rfl trivial ?_
  refine am_WcallV (y := 12) (n := 3) (a := 1) (f := 8) (as := [.inl (a0 - 1), .inl (a0)]) (st' := []) rfl rfl rfl rfl rfl rfl rfl rfl rfl rfl (Nat.zero_le _) rfl (am_CC_le (Nat.le_of_ble_eq_true rfl) (tm_X2_sameStretch h)) (fun r M2 q => ?_) (fun _ _ q => q.elim)
  obtain ⟨x1, rfl, h⟩ := q
  obtain ⟨b0, ht, hf⟩ := h
  refine am_Wbr (P := [am_rg x1]) (c := ¬ x1 = 0) (t := 15) (f := 11) (st' := []) rfl rfl ⟨b0, trivial⟩ rfl (fun q => ?_) (fun q => ?_)
  · have h := ht q
    refine am_Wrun 1 (ps := []) (pc' := 16) (lv' := [(0, .inr (.inl (some 1))), (1, .inl (a0))]) (st' := [.inl (0)]) (M' := M2) rfl trivial ?_
    exact am_Wretz rfl rfl (Or.inl rfl) h
  · have h := hf q
    refine am_Wrun 2 (ps := []) (pc' := 16) (lv' := [(0, .inr (.inl (some 1))), (1, .inl (a0))]) (st' := [.inl (1)]) (M' := M2) rfl trivial ?_
    exact am_Wretz rfl rfl (Or.inr rfl) h
abbrev dt_X2_endsStretch : am_D := (tk_X2_endsStretch, 2, 2, some .boolean, tb_hn 66)
def wp_X2_endsStretch (a0 : Int) (M : am_M) (Q : Int → am_M → Prop) : Prop := wp_X2_sameStretch a0 (a0 + 1) M (fun x1 M2 => (am_rg x1) ∧ (¬ x1 = 0 → Q 0 M2) ∧ (¬ (¬ x1 = 0) → Q 1 M2))
set_option maxRecDepth 20000 in
theorem tm_X2_endsStretch {a0 : Int} {M : am_M} {Q : Int → am_M → Prop} (h : wp_X2_endsStretch a0 M Q) : am_CC 2 66 [.inr (.inl (some 1)), .inl (a0)] M (am_QI Q) (fun _ _ => False) := by
  refine ⟨Nat.le_of_ble_eq_true rfl, ?_⟩
  show am_W (am_CC 1) dt_X2_endsStretch 1 0 none (am_QI Q) (am_qx 66 (fun _ _ => False)) (0, 0, [(0, .inr (.inl (some 1))), (1, .inl (a0))], [], M)
  refine am_Wrun 5 (ps := []) (pc' := 5) (lv' := [(0, .inr (.inl (some 1))), (1, .inl (a0))]) (st' := [.inl (a0 + 1), .inl (a0), .inr (.inl (some 1))]) (M' := M) rfl trivial ?_
  refine am_WcallV (y := 12) (n := 3) (a := 1) (f := 8) (as := [.inl (a0), .inl (a0 + 1)]) (st' := []) rfl rfl rfl rfl rfl rfl rfl rfl rfl rfl (Nat.zero_le _) rfl (am_CC_le (Nat.le_of_ble_eq_true rfl) (tm_X2_sameStretch h)) (fun r M2 q => ?_) (fun _ _ q => q.elim)
  obtain ⟨x1, rfl, h⟩ := q
  obtain ⟨b0, ht, hf⟩ := h
  refine am_Wbr (P := [am_rg x1]) (c := ¬ x1 = 0) (t := 15) (f := 11) (st' := []) rfl rfl ⟨b0, trivial⟩ rfl (fun q => ?_) (fun q => ?_)
  · have h := ht q
    refine am_Wrun 1 (ps := []) (pc' := 16) (lv' := [(0, .inr (.inl (some 1))), (1, .inl (a0))]) (st' := [.inl (0)]) (M' := M2) rfl trivial ?_
    exact am_Wretz rfl rfl (Or.inl rfl) h
  · have h := hf q
    refine am_Wrun 2 (ps := []) (pc' := 16) (lv' := [(0, .inr (.inl (some 1))), (1, .inl (a0))]) (st' := [.inl (1)]) (M' := M2) rfl trivial ?_
    exact am_Wretz rfl rfl (Or.inr rfl) h
abbrev dt_X4_fewestBehind : am_D := (tk_X4_fewestBehind, 4, 7, some .int, tb_hn 59)
def wj_X4_fewestBehind_94 (Q : Int → am_M → Prop) (k37 : Int → Int → Int → Int → Int → am_M → Prop) (v2 : Int) (v3 : Int) (v4 : Int) (v6 : Int) (M : am_M) : Prop := (0 ≤ (v6 : Int) ∧ (v6 : Int) < 60) ∧ (k37 v2 v3 v4 (M 12 v6) (v6 + 1) M)
def wl_X4_fewestBehind_37 (Q : Int → am_M → Prop) : Nat → Int → Int → Int → Int → Int → am_M → Prop
  | 0, _, _, _, _, _, _ => False
  | n + 1, v2, v3, v4, v5, v6, M => (am_rg v6) ∧ (am_rg (M 1 7)) ∧ ((M 1 7) ≤ v6 → Q v5 M) ∧ (¬ (M 1 7) ≤ v6 → (0 ≤ (v6 : Int) ∧ (v6 : Int) < 60) ∧ ((am_rg (M 5 v6)) ∧ (am_rg v3) ∧ (¬ (M 5 v6) = v3 → Q v5 M) ∧ (¬ (¬ (M 5 v6) = v3) → (0 ≤ (v4 + v6 : Int) ∧ (v4 + v6 : Int) < 3600) ∧ ((am_rg (M 13 (v4 + v6))) ∧ (am_rg v2) ∧ (v2 < (M 13 (v4 + v6)) → wl_X4_fewestBehind_37 Q n v2 v3 v4 v5 (v6 + 1) M) ∧ (¬ v2 < (M 13 (v4 + v6)) → (am_rg v5) ∧ (v5 = 0 → wj_X4_fewestBehind_94 Q (wl_X4_fewestBehind_37 Q n) v2 v3 v4 v6 M) ∧ (¬ v5 = 0 → (0 ≤ (v6 : Int) ∧ (v6 : Int) < 60) ∧ ((am_rg (M 12 v6)) ∧ (am_rg v5) ∧ (v5 ≤ (M 12 v6) → wl_X4_fewestBehind_37 Q n v2 v3 v4 v5 (v6 + 1) M) ∧ (¬ v5 ≤ (M 12 v6) → wj_X4_fewestBehind_94 Q (wl_X4_fewestBehind_37 Q n) v2 v3 v4 v6 M))))))))
def wp_X4_fewestBehind (a0 : Int) (a1 : Int) (M : am_M) (Q : Int → am_M → Prop) : Prop := wp_X2_hasPoint a0 M (fun x1 M2 => (am_rg x1) ∧ (¬ x1 = 0 → (0 ≤ (a0 : Int) ∧ (a0 : Int) < 60) ∧ (∃ e37, wl_X4_fewestBehind_37 Q e37 a1 (M2 5 a0) (a0 * 60) 0 (a0 + 1) M2)) ∧ (¬ (¬ x1 = 0) → Q 0 M2))
set_option maxRecDepth 20000 in
theorem tj_X4_fewestBehind_94 {Q : Int → am_M → Prop} {QX : am_X} {k37 : Int → Int → Int → Int → Int → am_M → Prop} (hk37 : ∀ (v2 : Int) (v3 : Int) (v4 : Int) (v5 : Int) (v6 : Int) (M : am_M), k37 v2 v3 v4 v5 v6 M → am_W (am_CC 1) dt_X4_fewestBehind 1 0 none (am_QI Q) QX (0, 37, [(0, .inr (.inl (some 10))), (2, .inl (v2)), (3, .inl (v3)), (4, .inl (v4)), (5, .inl (v5)), (6, .inl (v6))], [], M)) (v2 : Int) (v3 : Int) (v4 : Int) (v6 : Int) (M : am_M) (h : wj_X4_fewestBehind_94 Q k37 v2 v3 v4 v6 M) : am_W (am_CC 1) dt_X4_fewestBehind 1 0 none (am_QI Q) QX (0, 94, [(0, .inr (.inl (some 10))), (2, .inl (v2)), (3, .inl (v3)), (4, .inl (v4)), (6, .inl (v6))], [], M) := by
  obtain ⟨c0_0, h⟩ := h
  refine am_Wrun 7 (ps := [0 ≤ (v6 : Int) ∧ (v6 : Int) < 60]) (pc' := 37) (lv' := [(6, .inl (v6 + 1)), (5, .inl (M 12 v6)), (0, .inr (.inl (some 10))), (2, .inl (v2)), (3, .inl (v3)), (4, .inl (v4))]) (st' := []) (M' := M) rfl ⟨c0_0, trivial⟩ ?_
  refine am_W_sub [2, 3, 4, 5, 1, 0] rfl ?_
  exact hk37 v2 v3 v4 (M 12 v6) (v6 + 1) M h
set_option maxRecDepth 20000 in
theorem tw_X4_fewestBehind_37 {Q : Int → am_M → Prop} {QX : am_X} : ∀ (n : Nat) (v2 : Int) (v3 : Int) (v4 : Int) (v5 : Int) (v6 : Int) (M : am_M), wl_X4_fewestBehind_37 Q n v2 v3 v4 v5 v6 M → am_W (am_CC 1) dt_X4_fewestBehind 1 0 none (am_QI Q) QX (0, 37, [(0, .inr (.inl (some 10))), (2, .inl (v2)), (3, .inl (v3)), (4, .inl (v4)), (5, .inl (v5)), (6, .inl (v6))], [], M)
  | 0, _, _, _, _, _, _, h => h.elim
  | n + 1, v2, v3, v4, v5, v6, M, h => by
    refine am_Wrun 4 (ps := []) (pc' := 46) (lv' := [(0, .inr (.inl (some 10))), (2, .inl (v2)), (3, .inl (v3)), (4, .inl (v4)), (5, .inl (v5)), (6, .inl (v6))]) (st' := [.inl (M 1 7), .inl (v6)]) (M' := M) rfl trivial ?_
    obtain ⟨b0, b1, ht, hf⟩ := h
    refine am_Wbr (P := [am_rg v6, am_rg (M 1 7)]) (c := (M 1 7) ≤ v6) (t := 109) (f := 49) (st' := []) rfl rfl ⟨b0, b1, trivial⟩ rfl (fun q => ?_) (fun q => ?_)
    · have h := ht q
      refine am_Wrun 1 (ps := []) (pc' := 111) (lv' := [(0, .inr (.inl (some 10))), (2, .inl (v2)), (3, .inl (v3)), (4, .inl (v4)), (5, .inl (v5)), (6, .inl (v6))]) (st' := [.inl (v5)]) (M' := M) rfl trivial ?_
      exact am_Wreti rfl rfl h
    · have h := hf q
      obtain ⟨c0_0, h⟩ := h
      refine am_Wrun 6 (ps := [0 ≤ (v6 : Int) ∧ (v6 : Int) < 60]) (pc' := 60) (lv' := [(0, .inr (.inl (some 10))), (2, .inl (v2)), (3, .inl (v3)), (4, .inl (v4)), (5, .inl (v5)), (6, .inl (v6))]) (st' := [.inl (v3), .inl (M 5 v6)]) (M' := M) rfl ⟨c0_0, trivial⟩ ?_
      obtain ⟨b0, b1, ht, hf⟩ := h
      refine am_Wbr (P := [am_rg (M 5 v6), am_rg v3]) (c := ¬ (M 5 v6) = v3) (t := 109) (f := 63) (st' := []) rfl rfl ⟨b0, b1, trivial⟩ rfl (fun q => ?_) (fun q => ?_)
      · have h := ht q
        refine am_Wrun 1 (ps := []) (pc' := 111) (lv' := [(0, .inr (.inl (some 10))), (2, .inl (v2)), (3, .inl (v3)), (4, .inl (v4)), (5, .inl (v5)), (6, .inl (v6))]) (st' := [.inl (v5)]) (M' := M) rfl trivial ?_
        exact am_Wreti rfl rfl h
      · have h := hf q
        obtain ⟨c0_0, h⟩ := h
        refine am_Wrun 7 (ps := [0 ≤ (v4 + v6 : Int) ∧ (v4 + v6 : Int) < 3600]) (pc' := 74) (lv' := [(0, .inr (.inl (some 10))), (2, .inl (v2)), (3, .inl (v3)), (4, .inl (v4)), (5, .inl (v5)), (6, .inl (v6))]) (st' := [.inl (v2), .inl (M 13 (v4 + v6))]) (M' := M) rfl ⟨c0_0, trivial⟩ ?_
        obtain ⟨b0, b1, ht, hf⟩ := h
        refine am_Wbr (P := [am_rg (M 13 (v4 + v6)), am_rg v2]) (c := v2 < (M 13 (v4 + v6))) (t := 103) (f := 77) (st' := []) rfl rfl ⟨b0, b1, trivial⟩ rfl (fun q => ?_) (fun q => ?_)
        · have h := ht q
          refine am_Wrun 2 (ps := []) (pc' := 37) (lv' := [(6, .inl (v6 + 1)), (0, .inr (.inl (some 10))), (2, .inl (v2)), (3, .inl (v3)), (4, .inl (v4)), (5, .inl (v5))]) (st' := []) (M' := M) rfl trivial ?_
          refine am_W_sub [1, 2, 3, 4, 5, 0] rfl ?_
          exact tw_X4_fewestBehind_37 n v2 v3 v4 v5 (v6 + 1) M h
        · have h := hf q
          refine am_Wrun 1 (ps := []) (pc' := 79) (lv' := [(0, .inr (.inl (some 10))), (2, .inl (v2)), (3, .inl (v3)), (4, .inl (v4)), (5, .inl (v5)), (6, .inl (v6))]) (st' := [.inl (v5)]) (M' := M) rfl trivial ?_
          obtain ⟨b0, ht, hf⟩ := h
          refine am_Wbr (P := [am_rg v5]) (c := v5 = 0) (t := 94) (f := 82) (st' := []) rfl rfl ⟨b0, trivial⟩ rfl (fun q => ?_) (fun q => ?_)
          · have h := ht q
            refine am_W_sub [0, 1, 2, 3, 5] rfl ?_
            exact tj_X4_fewestBehind_94 (tw_X4_fewestBehind_37 n) v2 v3 v4 v6 M h
          · have h := hf q
            obtain ⟨c0_0, h⟩ := h
            refine am_Wrun 5 (ps := [0 ≤ (v6 : Int) ∧ (v6 : Int) < 60]) (pc' := 91) (lv' := [(0, .inr (.inl (some 10))), (2, .inl (v2)), (3, .inl (v3)), (4, .inl (v4)), (5, .inl (v5)), (6, .inl (v6))]) (st' := [.inl (v5), .inl (M 12 v6)]) (M' := M) rfl ⟨c0_0, trivial⟩ ?_
            obtain ⟨b0, b1, ht, hf⟩ := h
            refine am_Wbr (P := [am_rg (M 12 v6), am_rg v5]) (c := v5 ≤ (M 12 v6)) (t := 103) (f := 94) (st' := []) rfl rfl ⟨b0, b1, trivial⟩ rfl (fun q => ?_) (fun q => ?_)
            · have h := ht q
              refine am_Wrun 2 (ps := []) (pc' := 37) (lv' := [(6, .inl (v6 + 1)), (0, .inr (.inl (some 10))), (2, .inl (v2)), (3, .inl (v3)), (4, .inl (v4)), (5, .inl (v5))]) (st' := []) (M' := M) rfl trivial ?_
              refine am_W_sub [1, 2, 3, 4, 5, 0] rfl ?_
              exact tw_X4_fewestBehind_37 n v2 v3 v4 v5 (v6 + 1) M h
            · have h := hf q
              refine am_W_sub [0, 1, 2, 3, 5] rfl ?_
              exact tj_X4_fewestBehind_94 (tw_X4_fewestBehind_37 n) v2 v3 v4 v6 M h
set_option maxRecDepth 20000 in
theorem tm_X4_fewestBehind {a0 a1 : Int} {M : am_M} {Q : Int → am_M → Prop} (h : wp_X4_fewestBehind a0 a1 M Q) : am_CC 2 59 [.inr (.inl (some 10)), .inl (a0), .inl (a1)] M (am_QI Q) (fun _ _ => False) := by
  refine ⟨Nat.le_of_ble_eq_true rfl, ?_⟩
  show am_W (am_CC 1) dt_X4_fewestBehind 1 0 none (am_QI Q) (am_qx 59 (fun _ _ => False)) (0, 0, [(0, .inr (.inl (some 10))), (1, .inl (a0)), (2, .inl (a1))], [], M)
  refine am_Wrun 3 (ps := []) (pc' := 5) (lv' := [(0, .inr (.inl (some 10))), (1, .inl (a0)), (2, .inl (a1))]) (st' := [.inl (a0), .inr (.inl (some 1))]) (M' := M) rfl trivial ?_
  refine am_WcallV (y := 9) (n := 2) (a := 1) (f := 8) (as := [.inl (a0)]) (st' := []) rfl rfl rfl rfl rfl rfl rfl rfl rfl rfl (Nat.zero_le _) rfl (am_CC_le (Nat.le_of_ble_eq_true rfl) (tm_X2_hasPoint h)) (fun r M2 q => ?_) (fun _ _ q => q.elim)
  obtain ⟨x1, rfl, h⟩ := q
  obtain ⟨b0, ht, hf⟩ := h
  refine am_Wbr (P := [am_rg x1]) (c := ¬ x1 = 0) (t := 13) (f := 11) (st' := []) rfl rfl ⟨b0, trivial⟩ rfl (fun q => ?_) (fun q => ?_)
  · have h := ht q
    obtain ⟨c0_0, h⟩ := h
    refine am_Wrun 16 (ps := [0 ≤ (a0 : Int) ∧ (a0 : Int) < 60, -128 ≤ (60 : Int) ∧ (60 : Int) ≤ 127]) (pc' := 37) (lv' := [(6, .inl (a0 + 1)), (5, .inl (0)), (4, .inl (a0 * 60)), (3, .inl (M2 5 a0)), (0, .inr (.inl (some 10))), (1, .inl (a0)), (2, .inl (a1))]) (st' := []) (M' := M2) rfl ⟨c0_0, ⟨by decide, by decide⟩, trivial⟩ ?_
    refine am_W_sub [4, 6, 3, 2, 1, 0] rfl ?_
    obtain ⟨n37, h⟩ := h
    exact tw_X4_fewestBehind_37 n37 a1 (M2 5 a0) (a0 * 60) 0 (a0 + 1) M2 h
  · have h := hf q
    refine am_Wrun 1 (ps := []) (pc' := 12) (lv' := [(0, .inr (.inl (some 10))), (1, .inl (a0)), (2, .inl (a1))]) (st' := [.inl (0)]) (M' := M2) rfl trivial ?_
    exact am_Wreti rfl rfl h
abbrev dt_X4_findFewest : am_D := (tk_X4_findFewest, 4, 5, some .int, tb_hn 58)
def wl_X4_findFewest_12 (Q : Int → am_M → Prop) : Nat → Int → Int → Int → am_M → Prop
  | 0, _, _, _, _ => False
  | n + 1, v1, v2, v3, M => (am_rg v3) ∧ (v3 < 0 → Q v2 M) ∧ (¬ v3 < 0 → wp_X4_fewestBehind v3 v1 M (fun x1 M2 => (0 ≤ (v3 : Int) ∧ (v3 : Int) < 60) ∧ (wp_X2_beginsStretch v3 (am_up M2 12 v3 (x1 + 1)) (fun x3 M4 => (am_rg x3) ∧ (x3 = 0 → wl_X4_findFewest_12 Q n v1 v2 (v3 + (-1)) M4) ∧ (¬ x3 = 0 → (0 ≤ (v3 : Int) ∧ (v3 : Int) < 60) ∧ (wl_X4_findFewest_12 Q n v1 (v2 + (M4 12 v3)) (v3 + (-1)) M4))))))
def wp_X4_findFewest (a0 : Int) (M : am_M) (Q : Int → am_M → Prop) : Prop := ∃ e12, wl_X4_findFewest_12 Q e12 a0 0 ((M 1 7) - 1) M
set_option maxRecDepth 20000 in
theorem tw_X4_findFewest_12 {Q : Int → am_M → Prop} {QX : am_X} : ∀ (n : Nat) (v1 : Int) (v2 : Int) (v3 : Int) (M : am_M), wl_X4_findFewest_12 Q n v1 v2 v3 M → am_W (am_CC 2) dt_X4_findFewest 2 0 none (am_QI Q) QX (0, 12, [(0, .inr (.inl (some 10))), (1, .inl (v1)), (2, .inl (v2)), (3, .inl (v3))], [], M)
  | 0, _, _, _, _, h => h.elim
  | n + 1, v1, v2, v3, M, h => by
    refine am_Wrun 1 (ps := []) (pc' := 13) (lv' := [(0, .inr (.inl (some 10))), (1, .inl (v1)), (2, .inl (v2)), (3, .inl (v3))]) (st' := [.inl (v3)]) (M' := M) rfl trivial ?_
    obtain ⟨b0, ht, hf⟩ := h
    refine am_Wbr (P := [am_rg v3]) (c := v3 < 0) (t := 60) (f := 16) (st' := []) rfl rfl ⟨b0, trivial⟩ rfl (fun q => ?_) (fun q => ?_)
    · have h := ht q
      refine am_Wrun 1 (ps := []) (pc' := 61) (lv' := [(0, .inr (.inl (some 10))), (1, .inl (v1)), (2, .inl (v2)), (3, .inl (v3))]) (st' := [.inl (v2)]) (M' := M) rfl trivial ?_
      exact am_Wreti rfl rfl h
    · have h := hf q
      refine am_Wrun 3 (ps := []) (pc' := 19) (lv' := [(0, .inr (.inl (some 10))), (1, .inl (v1)), (2, .inl (v2)), (3, .inl (v3))]) (st' := [.inl (v1), .inl (v3), .inr (.inl (some 10))]) (M' := M) rfl trivial ?_
      refine am_WcallV (y := 59) (n := 3) (a := 10) (f := 22) (as := [.inl (v3), .inl (v1)]) (st' := []) rfl rfl rfl rfl rfl rfl rfl rfl rfl rfl (Nat.zero_le _) rfl (am_CC_le (Nat.le_of_ble_eq_true rfl) (tm_X4_fewestBehind h)) (fun r M2 q => ?_) (fun _ _ q => q.elim)
      obtain ⟨x1, rfl, h⟩ := q
      obtain ⟨c0_0, h⟩ := h
      refine am_Wrun 11 (ps := [0 ≤ (v3 : Int) ∧ (v3 : Int) < 60]) (pc' := 39) (lv' := [(4, .inl (x1)), (0, .inr (.inl (some 10))), (1, .inl (v1)), (2, .inl (v2)), (3, .inl (v3))]) (st' := [.inl (v3), .inr (.inl (some 1))]) (M' := (am_up M2 12 v3 (x1 + 1))) rfl ⟨c0_0, trivial⟩ ?_
      refine am_WcallV (y := 60) (n := 2) (a := 1) (f := 42) (as := [.inl (v3)]) (st' := []) rfl rfl rfl rfl rfl rfl rfl rfl rfl rfl (Nat.zero_le _) rfl (am_CC_le (Nat.le_of_ble_eq_true rfl) (tm_X2_beginsStretch h)) (fun r M4 q => ?_) (fun _ _ q => q.elim)
      obtain ⟨x3, rfl, h⟩ := q
      obtain ⟨b0, ht, hf⟩ := h
      refine am_Wbr (P := [am_rg x3]) (c := x3 = 0) (t := 54) (f := 45) (st' := []) rfl rfl ⟨b0, trivial⟩ rfl (fun q => ?_) (fun q => ?_)
      · have h := ht q
        refine am_Wrun 2 (ps := []) (pc' := 12) (lv' := [(3, .inl (v3 + (-1))), (4, .inl (x1)), (0, .inr (.inl (some 10))), (1, .inl (v1)), (2, .inl (v2))]) (st' := []) (M' := M4) rfl trivial ?_
        refine am_W_sub [2, 3, 4, 0] rfl ?_
        exact tw_X4_findFewest_12 n v1 v2 (v3 + (-1)) M4 h
      · have h := hf q
        obtain ⟨c0_0, h⟩ := h
        refine am_Wrun 9 (ps := [0 ≤ (v3 : Int) ∧ (v3 : Int) < 60]) (pc' := 12) (lv' := [(3, .inl (v3 + (-1))), (2, .inl (v2 + (M4 12 v3))), (4, .inl (x1)), (0, .inr (.inl (some 10))), (1, .inl (v1))]) (st' := []) (M' := M4) rfl ⟨c0_0, trivial⟩ ?_
        refine am_W_sub [3, 4, 1, 0] rfl ?_
        exact tw_X4_findFewest_12 n v1 (v2 + (M4 12 v3)) (v3 + (-1)) M4 h
set_option maxRecDepth 20000 in
theorem tm_X4_findFewest {a0 : Int} {M : am_M} {Q : Int → am_M → Prop} (h : wp_X4_findFewest a0 M Q) : am_CC 3 58 [.inr (.inl (some 10)), .inl (a0)] M (am_QI Q) (fun _ _ => False) := by
  refine ⟨Nat.le_of_ble_eq_true rfl, ?_⟩
  show am_W (am_CC 2) dt_X4_findFewest 2 0 none (am_QI Q) (am_qx 58 (fun _ _ => False)) (0, 0, [(0, .inr (.inl (some 10))), (1, .inl (a0))], [], M)
  refine am_Wrun 8 (ps := []) (pc' := 12) (lv' := [(3, .inl ((M 1 7) - 1)), (2, .inl (0)), (0, .inr (.inl (some 10))), (1, .inl (a0))]) (st' := []) (M' := M) rfl trivial ?_
  refine am_W_sub [2, 3, 1, 0] rfl ?_
  obtain ⟨n12, h⟩ := h
  exact tw_X4_findFewest_12 n12 a0 0 ((M 1 7) - 1) M h
abbrev dt_X4_choose : am_D := (tk_X4_choose, 4, 5, some .int, tb_hn 65)
def wl_X4_choose_82 (Q : Int → am_M → Prop) : Nat → Int → Int → Int → Int → am_M → Prop
  | 0, _, _, _, _, _ => False
  | n + 1, v1, v2, v3, v4, M => (am_rg v4) ∧ (am_rg (M 1 7)) ∧ ((M 1 7) ≤ v4 → Q v3 M) ∧ (¬ (M 1 7) ≤ v4 → (0 ≤ (v4 : Int) ∧ (v4 : Int) < 60) ∧ ((am_rg (M 11 v4)) ∧ (¬ (M 11 v4) = 1 → wl_X4_choose_82 Q n v1 v2 v3 (v4 + 1) M) ∧ (¬ (¬ (M 11 v4) = 1) → (am_rg v1) ∧ (¬ v1 = 1 → wp_X4_joinBehind v4 v1 v2 M (fun M2 => wl_X4_choose_82 Q n v1 v2 (v3 + 1) (v4 + 1) M2)) ∧ (¬ (¬ v1 = 1) → wp_X4_halveBehind v4 v2 M (fun M3 => wl_X4_choose_82 Q n v1 v2 (v3 + 1) (v4 + 1) M3)))))
def wl_X4_choose_27 (Q : Int → am_M → Prop) : Nat → Int → Int → Int → am_M → Prop
  | 0, _, _, _, _ => False
  | n + 1, v1, v2, v3, M => (am_rg v3) ∧ (am_rg (M 1 7)) ∧ ((M 1 7) ≤ v3 → ∃ e82, wl_X4_choose_82 Q e82 v1 v2 0 0 M) ∧ (¬ (M 1 7) ≤ v3 → wp_X2_beginsStretch v3 M (fun x4 M5 => (am_rg x4) ∧ (¬ x4 = 0 → (0 ≤ (v3 : Int) ∧ (v3 : Int) < 60) ∧ (wl_X4_choose_27 Q n v1 v2 (v3 + 1) (am_up M5 11 v3 1))) ∧ (¬ (¬ x4 = 0) → wp_X2_endsStretch v3 M5 (fun x6 M7 => (am_rg x6) ∧ (x6 = 0 → (0 ≤ (v3 : Int) ∧ (v3 : Int) < 60) ∧ (wl_X4_choose_27 Q n v1 v2 (v3 + 1) (am_up M7 11 v3 0))) ∧ (¬ x6 = 0 → (0 ≤ (v3 : Int) ∧ (v3 : Int) < 60) ∧ (wl_X4_choose_27 Q n v1 v2 (v3 + 1) (am_up M7 11 v3 1)))))))
def wp_X4_choose (a0 : Int) (M : am_M) (Q : Int → am_M → Prop) : Prop := wp_X4_findNeeds M (fun M1 => (am_rg a0) ∧ (¬ a0 = 2 → ∃ e27, wl_X4_choose_27 Q e27 a0 (M1 6 0) 0 M1) ∧ (¬ (¬ a0 = 2) → wp_X4_findFewest (M1 6 0) M1 (fun x8 M9 => ∃ e27, wl_X4_choose_27 Q e27 a0 (M1 6 0) 0 M9)))
set_option maxRecDepth 20000 in
theorem tw_X4_choose_82 {Q : Int → am_M → Prop} {QX : am_X} : ∀ (n : Nat) (v1 : Int) (v2 : Int) (v3 : Int) (v4 : Int) (M : am_M), wl_X4_choose_82 Q n v1 v2 v3 v4 M → am_W (am_CC 3) dt_X4_choose 3 0 none (am_QI Q) QX (0, 82, [(0, .inr (.inl (some 10))), (1, .inl (v1)), (2, .inl (v2)), (3, .inl (v3)), (4, .inl (v4))], [], M)
  | 0, _, _, _, _, _, h => h.elim
  | n + 1, v1, v2, v3, v4, M, h => by
    refine am_Wrun 4 (ps := []) (pc' := 91) (lv' := [(0, .inr (.inl (some 10))), (1, .inl (v1)), (2, .inl (v2)), (3, .inl (v3)), (4, .inl (v4))]) (st' := [.inl (M 1 7), .inl (v4)]) (M' := M) rfl trivial ?_
    obtain ⟨b0, b1, ht, hf⟩ := h
    refine am_Wbr (P := [am_rg v4, am_rg (M 1 7)]) (c := (M 1 7) ≤ v4) (t := 137) (f := 94) (st' := []) rfl rfl ⟨b0, b1, trivial⟩ rfl (fun q => ?_) (fun q => ?_)
    · have h := ht q
      refine am_Wrun 1 (ps := []) (pc' := 138) (lv' := [(0, .inr (.inl (some 10))), (1, .inl (v1)), (2, .inl (v2)), (3, .inl (v3)), (4, .inl (v4))]) (st' := [.inl (v3)]) (M' := M) rfl trivial ?_
      exact am_Wreti rfl rfl h
    · have h := hf q
      obtain ⟨c0_0, h⟩ := h
      refine am_Wrun 5 (ps := [0 ≤ (v4 : Int) ∧ (v4 : Int) < 60]) (pc' := 102) (lv' := [(0, .inr (.inl (some 10))), (1, .inl (v1)), (2, .inl (v2)), (3, .inl (v3)), (4, .inl (v4))]) (st' := [.inl (1), .inl (M 11 v4)]) (M' := M) rfl ⟨c0_0, trivial⟩ ?_
      obtain ⟨b0, ht, hf⟩ := h
      refine am_Wbr (P := [am_rg (M 11 v4), am_rg 1]) (c := ¬ (M 11 v4) = 1) (t := 131) (f := 105) (st' := []) rfl rfl ⟨b0, (am_rgd rfl), trivial⟩ rfl (fun q => ?_) (fun q => ?_)
      · have h := ht q
        refine am_Wrun 2 (ps := []) (pc' := 82) (lv' := [(4, .inl (v4 + 1)), (0, .inr (.inl (some 10))), (1, .inl (v1)), (2, .inl (v2)), (3, .inl (v3))]) (st' := []) (M' := M) rfl trivial ?_
        refine am_W_sub [1, 2, 3, 4, 0] rfl ?_
        exact tw_X4_choose_82 n v1 v2 v3 (v4 + 1) M h
      · have h := hf q
        refine am_Wrun 3 (ps := []) (pc' := 110) (lv' := [(3, .inl (v3 + 1)), (0, .inr (.inl (some 10))), (1, .inl (v1)), (2, .inl (v2)), (4, .inl (v4))]) (st' := [.inl (1), .inl (v1)]) (M' := M) rfl trivial ?_
        obtain ⟨b0, ht, hf⟩ := h
        refine am_Wbr (P := [am_rg v1, am_rg 1]) (c := ¬ v1 = 1) (t := 123) (f := 113) (st' := []) rfl rfl ⟨b0, (am_rgd rfl), trivial⟩ rfl (fun q => ?_) (fun q => ?_)
        · have h := ht q
          refine am_Wrun 4 (ps := []) (pc' := 128) (lv' := [(3, .inl (v3 + 1)), (0, .inr (.inl (some 10))), (1, .inl (v1)), (2, .inl (v2)), (4, .inl (v4))]) (st' := [.inl (v2), .inl (v1), .inl (v4), .inr (.inl (some 10))]) (M' := M) rfl trivial ?_
          refine am_WcallV (y := 69) (n := 4) (a := 10) (f := 131) (as := [.inl (v4), .inl (v1), .inl (v2)]) (st' := []) rfl rfl rfl rfl rfl rfl rfl rfl rfl rfl (Nat.zero_le _) rfl (am_CC_le (Nat.le_of_ble_eq_true rfl) (tm_X4_joinBehind h)) (fun r M2 q => ?_) (fun _ _ q => q.elim)
          obtain ⟨rfl, h⟩ := q
          refine am_Wrun 2 (ps := []) (pc' := 82) (lv' := [(4, .inl (v4 + 1)), (3, .inl (v3 + 1)), (0, .inr (.inl (some 10))), (1, .inl (v1)), (2, .inl (v2))]) (st' := []) (M' := M2) rfl trivial ?_
          refine am_W_sub [2, 3, 4, 1, 0] rfl ?_
          exact tw_X4_choose_82 n v1 v2 (v3 + 1) (v4 + 1) M2 h
        · have h := hf q
          refine am_Wrun 3 (ps := []) (pc' := 117) (lv' := [(3, .inl (v3 + 1)), (0, .inr (.inl (some 10))), (1, .inl (v1)), (2, .inl (v2)), (4, .inl (v4))]) (st' := [.inl (v2), .inl (v4), .inr (.inl (some 10))]) (M' := M) rfl trivial ?_
          refine am_WcallV (y := 67) (n := 3) (a := 10) (f := 120) (as := [.inl (v4), .inl (v2)]) (st' := []) rfl rfl rfl rfl rfl rfl rfl rfl rfl rfl (Nat.zero_le _) rfl (am_CC_le (Nat.le_of_ble_eq_true rfl) (tm_X4_halveBehind h)) (fun r M3 q => ?_) (fun _ _ q => q.elim)
          obtain ⟨rfl, h⟩ := q
          refine am_Wrun 3 (ps := []) (pc' := 82) (lv' := [(4, .inl (v4 + 1)), (3, .inl (v3 + 1)), (0, .inr (.inl (some 10))), (1, .inl (v1)), (2, .inl (v2))]) (st' := []) (M' := M3) rfl trivial ?_
          refine am_W_sub [2, 3, 4, 1, 0] rfl ?_
          exact tw_X4_choose_82 n v1 v2 (v3 + 1) (v4 + 1) M3 h
set_option maxRecDepth 20000 in
theorem tw_X4_choose_27 {Q : Int → am_M → Prop} {QX : am_X} : ∀ (n : Nat) (v1 : Int) (v2 : Int) (v3 : Int) (M : am_M), wl_X4_choose_27 Q n v1 v2 v3 M → am_W (am_CC 3) dt_X4_choose 3 0 none (am_QI Q) QX (0, 27, [(0, .inr (.inl (some 10))), (1, .inl (v1)), (2, .inl (v2)), (3, .inl (v3))], [], M)
  | 0, _, _, _, _, h => h.elim
  | n + 1, v1, v2, v3, M, h => by
    refine am_Wrun 4 (ps := []) (pc' := 35) (lv' := [(0, .inr (.inl (some 10))), (1, .inl (v1)), (2, .inl (v2)), (3, .inl (v3))]) (st' := [.inl (M 1 7), .inl (v3)]) (M' := M) rfl trivial ?_
    obtain ⟨b0, b1, ht, hf⟩ := h
    refine am_Wbr (P := [am_rg v3, am_rg (M 1 7)]) (c := (M 1 7) ≤ v3) (t := 77) (f := 38) (st' := []) rfl rfl ⟨b0, b1, trivial⟩ rfl (fun q => ?_) (fun q => ?_)
    · have h := ht q
      refine am_Wrun 4 (ps := []) (pc' := 82) (lv' := [(4, .inl (0)), (3, .inl (0)), (0, .inr (.inl (some 10))), (1, .inl (v1)), (2, .inl (v2))]) (st' := []) (M' := M) rfl trivial ?_
      refine am_W_sub [2, 3, 4, 1, 0] rfl ?_
      obtain ⟨n82, h⟩ := h
      exact tw_X4_choose_82 n82 v1 v2 0 0 M h
    · have h := hf q
      refine am_Wrun 6 (ps := []) (pc' := 48) (lv' := [(0, .inr (.inl (some 10))), (1, .inl (v1)), (2, .inl (v2)), (3, .inl (v3))]) (st' := [.inl (v3), .inr (.inl (some 1)), .inl (v3), .inr (.inl (some 11))]) (M' := M) rfl trivial ?_
      refine am_WcallV (y := 60) (n := 2) (a := 1) (f := 51) (as := [.inl (v3)]) (st' := [.inl (v3), .inr (.inl (some 11))]) rfl rfl rfl rfl rfl rfl rfl rfl rfl rfl (Nat.zero_le _) rfl (am_CC_le (Nat.le_of_ble_eq_true rfl) (tm_X2_beginsStretch h)) (fun r M5 q => ?_) (fun _ _ q => q.elim)
      obtain ⟨x4, rfl, h⟩ := q
      obtain ⟨b0, ht, hf⟩ := h
      refine am_Wbr (P := [am_rg x4]) (c := ¬ x4 = 0) (t := 65) (f := 54) (st' := [.inl (v3), .inr (.inl (some 11))]) rfl rfl ⟨b0, trivial⟩ rfl (fun q => ?_) (fun q => ?_)
      · have h := ht q
        obtain ⟨c0_0, h⟩ := h
        refine am_Wrun 5 (ps := [0 ≤ (v3 : Int) ∧ (v3 : Int) < 60]) (pc' := 27) (lv' := [(3, .inl (v3 + 1)), (0, .inr (.inl (some 10))), (1, .inl (v1)), (2, .inl (v2))]) (st' := []) (M' := (am_up M5 11 v3 1)) rfl ⟨c0_0, trivial⟩ ?_
        refine am_W_sub [1, 2, 3, 0] rfl ?_
        exact tw_X4_choose_27 n v1 v2 (v3 + 1) (am_up M5 11 v3 1) h
      · have h := hf q
        refine am_Wrun 3 (ps := []) (pc' := 59) (lv' := [(0, .inr (.inl (some 10))), (1, .inl (v1)), (2, .inl (v2)), (3, .inl (v3))]) (st' := [.inl (v3), .inr (.inl (some 1)), .inl (v3), .inr (.inl (some 11))]) (M' := M5) rfl trivial ?_
        refine am_WcallV (y := 66) (n := 2) (a := 1) (f := 62) (as := [.inl (v3)]) (st' := [.inl (v3), .inr (.inl (some 11))]) rfl rfl rfl rfl rfl rfl rfl rfl rfl rfl (Nat.zero_le _) rfl (am_CC_le (Nat.le_of_ble_eq_true rfl) (tm_X2_endsStretch h)) (fun r M7 q => ?_) (fun _ _ q => q.elim)
        obtain ⟨x6, rfl, h⟩ := q
        obtain ⟨b0, ht, hf⟩ := h
        refine am_Wbr (P := [am_rg x6]) (c := x6 = 0) (t := 69) (f := 65) (st' := [.inl (v3), .inr (.inl (some 11))]) rfl rfl ⟨b0, trivial⟩ rfl (fun q => ?_) (fun q => ?_)
        · have h := ht q
          obtain ⟨c0_0, h⟩ := h
          refine am_Wrun 4 (ps := [0 ≤ (v3 : Int) ∧ (v3 : Int) < 60]) (pc' := 27) (lv' := [(3, .inl (v3 + 1)), (0, .inr (.inl (some 10))), (1, .inl (v1)), (2, .inl (v2))]) (st' := []) (M' := (am_up M7 11 v3 0)) rfl ⟨c0_0, trivial⟩ ?_
          refine am_W_sub [1, 2, 3, 0] rfl ?_
          exact tw_X4_choose_27 n v1 v2 (v3 + 1) (am_up M7 11 v3 0) h
        · have h := hf q
          obtain ⟨c0_0, h⟩ := h
          refine am_Wrun 5 (ps := [0 ≤ (v3 : Int) ∧ (v3 : Int) < 60]) (pc' := 27) (lv' := [(3, .inl (v3 + 1)), (0, .inr (.inl (some 10))), (1, .inl (v1)), (2, .inl (v2))]) (st' := []) (M' := (am_up M7 11 v3 1)) rfl ⟨c0_0, trivial⟩ ?_
          refine am_W_sub [1, 2, 3, 0] rfl ?_
          exact tw_X4_choose_27 n v1 v2 (v3 + 1) (am_up M7 11 v3 1) h
set_option maxRecDepth 20000 in
theorem tm_X4_choose {a0 : Int} {M : am_M} {Q : Int → am_M → Prop} (h : wp_X4_choose a0 M Q) : am_CC 4 65 [.inr (.inl (some 10)), .inl (a0)] M (am_QI Q) (fun _ _ => False) := by
  refine ⟨Nat.le_of_ble_eq_true rfl, ?_⟩
  show am_W (am_CC 3) dt_X4_choose 3 0 none (am_QI Q) (am_qx 65 (fun _ _ => False)) (0, 0, [(0, .inr (.inl (some 10))), (1, .inl (a0))], [], M)
  refine am_Wrun 1 (ps := []) (pc' := 1) (lv' := [(0, .inr (.inl (some 10))), (1, .inl (a0))]) (st' := [.inr (.inl (some 10))]) (M' := M) rfl trivial ?_
  refine am_WcallV (y := 56) (n := 1) (a := 10) (f := 4) (as := []) (st' := []) rfl rfl rfl rfl rfl rfl rfl rfl rfl rfl (Nat.zero_le _) rfl (am_CC_le (Nat.le_of_ble_eq_true rfl) (tm_X4_findNeeds h)) (fun r M1 q => ?_) (fun _ _ q => q.elim)
  obtain ⟨rfl, h⟩ := q
  refine am_Wrun 8 (ps := [0 ≤ (0 : Int) ∧ (0 : Int) < 3]) (pc' := 16) (lv' := [(2, .inl (M1 6 0)), (0, .inr (.inl (some 10))), (1, .inl (a0))]) (st' := [.inl (2), .inl (a0)]) (M' := M1) rfl ⟨⟨by decide, by decide⟩, trivial⟩ ?_
  obtain ⟨b0, ht, hf⟩ := h
  refine am_Wbr (P := [am_rg a0, am_rg 2]) (c := ¬ a0 = 2) (t := 25) (f := 19) (st' := []) rfl rfl ⟨b0, (am_rgd rfl), trivial⟩ rfl (fun q => ?_) (fun q => ?_)
  · have h := ht q
    refine am_Wrun 2 (ps := []) (pc' := 27) (lv' := [(3, .inl (0)), (2, .inl (M1 6 0)), (0, .inr (.inl (some 10))), (1, .inl (a0))]) (st' := []) (M' := M1) rfl trivial ?_
    refine am_W_sub [2, 3, 1, 0] rfl ?_
    obtain ⟨n27, h⟩ := h
    exact tw_X4_choose_27 n27 a0 (M1 6 0) 0 M1 h
  · have h := hf q
    refine am_Wrun 2 (ps := []) (pc' := 21) (lv' := [(2, .inl (M1 6 0)), (0, .inr (.inl (some 10))), (1, .inl (a0))]) (st' := [.inl (M1 6 0), .inr (.inl (some 10))]) (M' := M1) rfl trivial ?_
    refine am_WcallV (y := 58) (n := 2) (a := 10) (f := 24) (as := [.inl (M1 6 0)]) (st' := []) rfl rfl rfl rfl rfl rfl rfl rfl rfl rfl (Nat.zero_le _) rfl (am_CC_le (Nat.le_of_ble_eq_true rfl) (tm_X4_findFewest h)) (fun r M9 q => ?_) (fun _ _ q => q.elim)
    obtain ⟨x8, rfl, h⟩ := q
    refine am_Wrun 3 (ps := []) (pc' := 27) (lv' := [(3, .inl (0)), (2, .inl (M1 6 0)), (0, .inr (.inl (some 10))), (1, .inl (a0))]) (st' := []) (M' := M9) rfl trivial ?_
    refine am_W_sub [2, 3, 1, 0] rfl ?_
    obtain ⟨n27, h⟩ := h
    exact tw_X4_choose_27 n27 a0 (M1 6 0) 0 M9 h
abbrev dt_X5_thin : am_D := (tk_X5_thin, 5, 4, some .int, tb_hn 88)
def wl_X5_thin_26 (Q : Int → am_M → Prop) (X : am_X) : Nat → Int → Int → am_M → Prop
  | 0, _, _, _ => False
  | n + 1, v2, v3, M => (am_rg v3) ∧ (am_rg (M 1 7)) ∧ ((M 1 7) ≤ v3 → Q v2 (am_up M 1 9 ((M 1 9) + 1))) ∧ (¬ (M 1 7) ≤ v3 → (0 ≤ (v3 : Int) ∧ (v3 : Int) < 60) ∧ (0 ≤ (v3 : Int) ∧ (v3 : Int) < 60) ∧ (wl_X5_thin_26 Q X n v2 (v3 + 1) (am_up M 4 v3 (M 11 v3))))
def wp_X5_thin (a0 : Int) (M : am_M) (Q : Int → am_M → Prop) (X : am_X) : Prop := wp_X5_refuseNoWay a0 M (fun M1 => wp_X0_remember M1 (fun M2 => wp_X4_choose a0 M2 (fun x3 M4 => ∃ e26, wl_X5_thin_26 Q X e26 x3 0 M4))) X
set_option maxRecDepth 20000 in
theorem tw_X5_thin_26 {Q : Int → am_M → Prop} {X : am_X} {QX : am_X} (hX : ∀ E M, X E M → QX E M) : ∀ (n : Nat) (v2 : Int) (v3 : Int) (M : am_M), wl_X5_thin_26 Q X n v2 v3 M → am_W (am_CC 7) dt_X5_thin 7 0 none (am_QI Q) QX (0, 26, [(0, .inr (.inl (some 0))), (2, .inl (v2)), (3, .inl (v3))], [], M)
  | 0, _, _, _, h => h.elim
  | n + 1, v2, v3, M, h => by
    refine am_Wrun 4 (ps := []) (pc' := 34) (lv' := [(0, .inr (.inl (some 0))), (2, .inl (v2)), (3, .inl (v3))]) (st' := [.inl (M 1 7), .inl (v3)]) (M' := M) rfl trivial ?_
    obtain ⟨b0, b1, ht, hf⟩ := h
    refine am_Wbr (P := [am_rg v3, am_rg (M 1 7)]) (c := (M 1 7) ≤ v3) (t := 61) (f := 37) (st' := []) rfl rfl ⟨b0, b1, trivial⟩ rfl (fun q => ?_) (fun q => ?_)
    · have h := ht q
      refine am_Wrun 8 (ps := []) (pc' := 75) (lv' := [(0, .inr (.inl (some 0))), (2, .inl (v2)), (3, .inl (v3))]) (st' := [.inl (v2)]) (M' := (am_up M 1 9 ((M 1 9) + 1))) rfl trivial ?_
      exact am_Wreti rfl rfl h
    · have h := hf q
      obtain ⟨c0_0, c1_0, h⟩ := h
      refine am_Wrun 12 (ps := [0 ≤ (v3 : Int) ∧ (v3 : Int) < 60, 0 ≤ (v3 : Int) ∧ (v3 : Int) < 60]) (pc' := 26) (lv' := [(3, .inl (v3 + 1)), (0, .inr (.inl (some 0))), (2, .inl (v2))]) (st' := []) (M' := (am_up M 4 v3 (M 11 v3))) rfl ⟨c0_0, c1_0, trivial⟩ ?_
      refine am_W_sub [1, 2, 0] rfl ?_
      exact tw_X5_thin_26 hX n v2 (v3 + 1) (am_up M 4 v3 (M 11 v3)) h
set_option maxRecDepth 20000 in
theorem tm_X5_thin {a0 : Int} {M : am_M} {Q : Int → am_M → Prop} {X : am_X} (h : wp_X5_thin a0 M Q X) : am_CC 8 88 [.inr (.inl (some 0)), .inl (a0)] M (am_QI Q) X := by
  refine ⟨Nat.le_of_ble_eq_true rfl, ?_⟩
  show am_W (am_CC 7) dt_X5_thin 7 0 none (am_QI Q) (am_qx 88 X) (0, 0, [(0, .inr (.inl (some 0))), (1, .inl (a0))], [], M)
  have hX : ∀ E M, X E M → am_qx 88 X E M := fun E M q => ⟨⟨rfl, by decide⟩, q⟩
  refine am_Wrun 1 (ps := []) (pc' := 1) (lv' := [(0, .inr (.inl (some 0))), (1, .inl (a0))]) (st' := [.inl (a0)]) (M' := M) rfl trivial ?_
  refine am_WcallS (y := 64) (n := 1) (f := 4) (co := 0) (as := [.inl (a0)]) (st' := []) rfl rfl rfl rfl rfl rfl rfl rfl rfl (Nat.zero_le _) rfl (am_CC_le (Nat.le_of_ble_eq_true rfl) (tm_X5_refuseNoWay h)) (fun r M1 q => ?_) (fun E M q => hX _ _ q)
  obtain ⟨rfl, h⟩ := q
  refine am_Wrun 4 (ps := []) (pc' := 12) (lv' := [(0, .inr (.inl (some 0))), (1, .inl (a0))]) (st' := [.inr (.inl (some 1)), .inr (.inl (some 14))]) (M' := M1) rfl trivial ?_
  refine am_WcallV (y := 1) (n := 2) (a := 14) (f := 15) (as := [.inr (.inl (some 1))]) (st' := []) rfl rfl rfl rfl rfl rfl rfl rfl rfl rfl (Nat.zero_le _) rfl (am_CC_le (Nat.le_of_ble_eq_true rfl) (tm_X0_remember h)) (fun r M2 q => ?_) (fun _ _ q => q.elim)
  obtain ⟨rfl, h⟩ := q
  refine am_Wrun 3 (ps := []) (pc' := 20) (lv' := [(0, .inr (.inl (some 0))), (1, .inl (a0))]) (st' := [.inl (a0), .inr (.inl (some 10))]) (M' := M2) rfl trivial ?_
  refine am_WcallV (y := 65) (n := 2) (a := 10) (f := 23) (as := [.inl (a0)]) (st' := []) rfl rfl rfl rfl rfl rfl rfl rfl rfl rfl (Nat.zero_le _) rfl (am_CC_le (Nat.le_of_ble_eq_true rfl) (tm_X4_choose h)) (fun r M4 q => ?_) (fun _ _ q => q.elim)
  obtain ⟨x3, rfl, h⟩ := q
  refine am_Wrun 3 (ps := []) (pc' := 26) (lv' := [(3, .inl (0)), (2, .inl (x3)), (0, .inr (.inl (some 0))), (1, .inl (a0))]) (st' := []) (M' := M4) rfl trivial ?_
  refine am_W_sub [2, 1, 0] rfl ?_
  obtain ⟨n26, h⟩ := h
  exact tw_X5_thin_26 hX n26 x3 0 M4 h
abbrev dt_L_thin : am_D := (tk_L_thin, 9, 4, some .int, tb_hn 203)
def wp_L_thin (a1 : Int) (M : am_M) (Q : Int → am_M → Prop) : Prop := wp_X5_thin a1 M (fun x1 M2 => (am_rg x1) ∧ (Q 0 (am_up M2 80 0 x1))) (fun E M3 => (E = 0 ∧ Q 1 M3))
set_option maxRecDepth 20000 in
theorem tm_L_thin {a1 : Int} {M : am_M} {Q : Int → am_M → Prop} (h : wp_L_thin a1 M Q) : am_CC 9 203 [.inr (.inl (some 0)), .inl (a1), .inr (.inl (some 80))] M (am_QI Q) (fun _ _ => False) := by
  refine ⟨Nat.le_of_ble_eq_true rfl, ?_⟩
  show am_W (am_CC 8) dt_L_thin 8 1 none (am_QI Q) (am_qx 203 (fun _ _ => False)) (0, 0, [(0, .inr (.inl (some 0))), (1, .inl (a1)), (2, .inr (.inl (some 80)))], [], M)
  refine am_Wrun 4 (ps := []) (pc' := 4) (lv' := [(0, .inr (.inl (some 0))), (1, .inl (a1)), (2, .inr (.inl (some 80)))]) (st' := [.inl (a1), .inr (.inl (some 0)), .inl (0), .inr (.inl (some 80))]) (M' := M) rfl trivial ?_
  refine am_WcallV (y := 88) (n := 2) (a := 0) (f := 7) (as := [.inl (a1)]) (st' := [.inl (0), .inr (.inl (some 80))]) rfl rfl rfl rfl rfl rfl rfl rfl rfl rfl (Nat.zero_le _) rfl (am_CC_le (Nat.le_of_ble_eq_true rfl) (tm_X5_thin h)) (fun r M2 q => ?_) (fun E M3 q => ?_)
  · obtain ⟨x1, rfl, h⟩ := q
    obtain ⟨c0_0, h⟩ := h
    refine am_Wrun 4 (ps := [am_rg x1, 0 ≤ (0 : Int) ∧ (0 : Int) < 1]) (pc' := 16) (lv' := [(0, .inr (.inl (some 0))), (1, .inl (a1)), (2, .inr (.inl (some 80)))]) (st' := [.inl (0)]) (M' := (am_up M2 80 0 x1)) rfl ⟨c0_0, ⟨by decide, by decide⟩, trivial⟩ ?_
    exact am_Wreti rfl rfl h
  · rcases q with ⟨rfl, h⟩
    · show 0 + 1 ≤ 1 ∧ am_W (am_CC 8) dt_L_thin 8 1 none (am_QI Q) _ (0 + 1, 13, [(0, .inr (.inl (some 0))), (1, .inl (a1)), (2, .inr (.inl (some 80)))], [], M3)
      refine ⟨Nat.le_refl _, ?_⟩
      refine am_Wrun 1 (ps := []) (pc' := 14) (lv' := [(0, .inr (.inl (some 0))), (1, .inl (a1)), (2, .inr (.inl (some 80)))]) (st' := [.inl (1)]) (M' := M3) rfl trivial ?_
      exact am_Wreti rfl rfl h
abbrev dt_X6_lastWith : am_D := (tk_X6_lastWith, 6, 3, some .int, tb_hn 145)
def wl_X6_lastWith_2 (Q : Int → am_M → Prop) : Nat → Int → am_M → Prop
  | 0, _, _ => False
  | n + 1, v2, M => (am_rg (v2 + 1)) ∧ (am_rg (M 70 0)) ∧ ((M 70 0) ≤ (v2 + 1) → Q v2 M) ∧ (¬ (M 70 0) ≤ (v2 + 1) → wp_X6_isFirst (v2 + 1) M (fun x1 M2 => (am_rg x1) ∧ (¬ x1 = 0 → Q v2 M2) ∧ (¬ (¬ x1 = 0) → wl_X6_lastWith_2 Q n (v2 + 1) M2)))
def wp_X6_lastWith (a0 : Int) (M : am_M) (Q : Int → am_M → Prop) : Prop := ∃ e2, wl_X6_lastWith_2 Q e2 a0 M
set_option maxRecDepth 20000 in
theorem tw_X6_lastWith_2 {Q : Int → am_M → Prop} {QX : am_X} : ∀ (n : Nat) (v2 : Int) (M : am_M), wl_X6_lastWith_2 Q n v2 M → am_W (am_CC 2) dt_X6_lastWith 2 0 none (am_QI Q) QX (0, 2, [(0, .inr (.inl (some 69))), (2, .inl (v2))], [], M)
  | 0, _, _, h => h.elim
  | n + 1, v2, M, h => by
    refine am_Wrun 7 (ps := [0 ≤ (0 : Int) ∧ (0 : Int) < 203]) (pc' := 11) (lv' := [(0, .inr (.inl (some 69))), (2, .inl (v2))]) (st' := [.inl (M 70 0), .inl (v2 + 1)]) (M' := M) rfl ⟨⟨by decide, by decide⟩, trivial⟩ ?_
    obtain ⟨b0, b1, ht, hf⟩ := h
    refine am_Wbr (P := [am_rg (v2 + 1), am_rg (M 70 0)]) (c := (M 70 0) ≤ (v2 + 1)) (t := 30) (f := 14) (st' := []) rfl rfl ⟨b0, b1, trivial⟩ rfl (fun q => ?_) (fun q => ?_)
    · have h := ht q
      refine am_Wrun 1 (ps := []) (pc' := 31) (lv' := [(0, .inr (.inl (some 69))), (2, .inl (v2))]) (st' := [.inl (v2)]) (M' := M) rfl trivial ?_
      exact am_Wreti rfl rfl h
    · have h := hf q
      refine am_Wrun 4 (ps := []) (pc' := 18) (lv' := [(0, .inr (.inl (some 69))), (2, .inl (v2))]) (st' := [.inl (v2 + 1), .inr (.inl (some 69))]) (M' := M) rfl trivial ?_
      refine am_WcallV (y := 127) (n := 2) (a := 69) (f := 21) (as := [.inl (v2 + 1)]) (st' := []) rfl rfl rfl rfl rfl rfl rfl rfl rfl rfl (Nat.zero_le _) rfl (am_CC_le (Nat.le_of_ble_eq_true rfl) (tm_X6_isFirst h)) (fun r M2 q => ?_) (fun _ _ q => q.elim)
      obtain ⟨x1, rfl, h⟩ := q
      obtain ⟨b0, ht, hf⟩ := h
      refine am_Wbr (P := [am_rg x1]) (c := ¬ x1 = 0) (t := 30) (f := 24) (st' := []) rfl rfl ⟨b0, trivial⟩ rfl (fun q => ?_) (fun q => ?_)
      · have h := ht q
        refine am_Wrun 1 (ps := []) (pc' := 31) (lv' := [(0, .inr (.inl (some 69))), (2, .inl (v2))]) (st' := [.inl (v2)]) (M' := M2) rfl trivial ?_
        exact am_Wreti rfl rfl h
      · have h := hf q
        refine am_Wrun 2 (ps := []) (pc' := 2) (lv' := [(2, .inl (v2 + 1)), (0, .inr (.inl (some 69)))]) (st' := []) (M' := M2) rfl trivial ?_
        refine am_W_sub [1, 0] rfl ?_
        exact tw_X6_lastWith_2 n (v2 + 1) M2 h
set_option maxRecDepth 20000 in
theorem tm_X6_lastWith {a0 : Int} {M : am_M} {Q : Int → am_M → Prop} (h : wp_X6_lastWith a0 M Q) : am_CC 3 145 [.inr (.inl (some 69)), .inl (a0)] M (am_QI Q) (fun _ _ => False) := by
  refine ⟨Nat.le_of_ble_eq_true rfl, ?_⟩
  show am_W (am_CC 2) dt_X6_lastWith 2 0 none (am_QI Q) (am_qx 145 (fun _ _ => False)) (0, 0, [(0, .inr (.inl (some 69))), (1, .inl (a0))], [], M)
  refine am_Wrun 2 (ps := []) (pc' := 2) (lv' := [(2, .inl (a0)), (0, .inr (.inl (some 69))), (1, .inl (a0))]) (st' := []) (M' := M) rfl trivial ?_
  refine am_W_sub [1, 0] rfl ?_
  obtain ⟨n2, h⟩ := h
  exact tw_X6_lastWith_2 n2 a0 M h
abbrev dt_X6_few : am_D := (tk_X6_few, 6, 6, none, tb_hn 149)
def wl_X6_few_33 (Q : am_M → Prop) (k12 : Int → Int → Int → Int → am_M → Prop) : Nat → Int → Int → Int → Int → Int → am_M → Prop
  | 0, _, _, _, _, _, _ => False
  | n + 1, v1, v2, v3, v4, v5, M => (am_rg v5) ∧ (am_rg v2) ∧ (v2 < v5 → k12 v1 v2 v3 (v4 + (-1)) M) ∧ (¬ v2 < v5 → (0 ≤ (v5 : Int) ∧ (v5 : Int) < 60) ∧ (0 ≤ (v4 : Int) ∧ (v4 : Int) < 60) ∧ ((am_rg (1 + (M 76 v5))) ∧ (am_rg (M 76 v4)) ∧ ((M 76 v4) < (1 + (M 76 v5)) → wl_X6_few_33 Q k12 n v1 v2 v3 v4 (v5 + 1) M) ∧ (¬ (M 76 v4) < (1 + (M 76 v5)) → wp_X6_canJoin v4 v5 v3 M (fun x1 M2 => (am_rg x1) ∧ (x1 = 0 → wl_X6_few_33 Q k12 n v1 v2 v3 v4 (v5 + 1) M2) ∧ (¬ x1 = 0 → (0 ≤ (v5 : Int) ∧ (v5 : Int) < 60) ∧ (0 ≤ (v4 : Int) ∧ (v4 : Int) < 60) ∧ (0 ≤ (v4 : Int) ∧ (v4 : Int) < 60) ∧ (wl_X6_few_33 Q k12 n v1 v2 v3 v4 (v5 + 1) (am_up (am_up M2 76 v4 (1 + (M2 76 v5))) 77 v4 v5)))))))
def wl_X6_few_12 (Q : am_M → Prop) : Nat → Int → Int → Int → Int → am_M → Prop
  | 0, _, _, _, _, _ => False
  | n + 1, v1, v2, v3, v4, M => (am_rg v4) ∧ (am_rg v1) ∧ (v4 < v1 → Q M) ∧ (¬ v4 < v1 → (0 ≤ (v4 : Int) ∧ (v4 : Int) < 60) ∧ (∃ e33, wl_X6_few_33 Q (wl_X6_few_12 Q n) e33 v1 v2 v3 v4 (v4 + 1) (am_up M 76 v4 61)))
def wp_X6_few (a0 : Int) (a1 : Int) (a2 : Int) (M : am_M) (Q : am_M → Prop) : Prop := (0 ≤ (a1 : Int) ∧ (a1 : Int) < 60) ∧ (∃ e12, wl_X6_few_12 Q e12 a0 a1 a2 (a1 - 1) (am_up M 76 a1 1))
set_option maxRecDepth 20000 in
theorem tw_X6_few_33 {Q : am_M → Prop} {QX : am_X} {k12 : Int → Int → Int → Int → am_M → Prop} (hk12 : ∀ (v1 : Int) (v2 : Int) (v3 : Int) (v4 : Int) (M : am_M), k12 v1 v2 v3 v4 M → am_W (am_CC 5) dt_X6_few 5 0 none (am_QV Q) QX (0, 12, [(0, .inr (.inl (some 69))), (1, .inl (v1)), (2, .inl (v2)), (3, .inl (v3)), (4, .inl (v4))], [], M)) : ∀ (n : Nat) (v1 : Int) (v2 : Int) (v3 : Int) (v4 : Int) (v5 : Int) (M : am_M), wl_X6_few_33 Q k12 n v1 v2 v3 v4 v5 M → am_W (am_CC 5) dt_X6_few 5 0 none (am_QV Q) QX (0, 33, [(0, .inr (.inl (some 69))), (1, .inl (v1)), (2, .inl (v2)), (3, .inl (v3)), (4, .inl (v4)), (5, .inl (v5))], [], M)
  | 0, _, _, _, _, _, _, h => h.elim
  | n + 1, v1, v2, v3, v4, v5, M, h => by
    refine am_Wrun 2 (ps := []) (pc' := 36) (lv' := [(0, .inr (.inl (some 69))), (1, .inl (v1)), (2, .inl (v2)), (3, .inl (v3)), (4, .inl (v4)), (5, .inl (v5))]) (st' := [.inl (v2), .inl (v5)]) (M' := M) rfl trivial ?_
    obtain ⟨b0, b1, ht, hf⟩ := h
    refine am_Wbr (P := [am_rg v5, am_rg v2]) (c := v2 < v5) (t := 101) (f := 39) (st' := []) rfl rfl ⟨b0, b1, trivial⟩ rfl (fun q => ?_) (fun q => ?_)
    · have h := ht q
      refine am_Wrun 2 (ps := []) (pc' := 12) (lv' := [(4, .inl (v4 + (-1))), (0, .inr (.inl (some 69))), (1, .inl (v1)), (2, .inl (v2)), (3, .inl (v3)), (5, .inl (v5))]) (st' := []) (M' := M) rfl trivial ?_
      refine am_W_sub [1, 2, 3, 4, 0] rfl ?_
      exact hk12 v1 v2 v3 (v4 + (-1)) M h
    · have h := hf q
      obtain ⟨c0_0, c1_0, h⟩ := h
      refine am_Wrun 10 (ps := [0 ≤ (v5 : Int) ∧ (v5 : Int) < 60, 0 ≤ (v4 : Int) ∧ (v4 : Int) < 60]) (pc' := 55) (lv' := [(0, .inr (.inl (some 69))), (1, .inl (v1)), (2, .inl (v2)), (3, .inl (v3)), (4, .inl (v4)), (5, .inl (v5))]) (st' := [.inl (M 76 v4), .inl (1 + (M 76 v5))]) (M' := M) rfl ⟨c0_0, c1_0, trivial⟩ ?_
      obtain ⟨b0, b1, ht, hf⟩ := h
      refine am_Wbr (P := [am_rg (1 + (M 76 v5)), am_rg (M 76 v4)]) (c := (M 76 v4) < (1 + (M 76 v5))) (t := 95) (f := 58) (st' := []) rfl rfl ⟨b0, b1, trivial⟩ rfl (fun q => ?_) (fun q => ?_)
      · have h := ht q
        refine am_Wrun 2 (ps := []) (pc' := 33) (lv' := [(5, .inl (v5 + 1)), (0, .inr (.inl (some 69))), (1, .inl (v1)), (2, .inl (v2)), (3, .inl (v3)), (4, .inl (v4))]) (st' := []) (M' := M) rfl trivial ?_
        refine am_W_sub [1, 2, 3, 4, 5, 0] rfl ?_
        exact tw_X6_few_33 hk12 n v1 v2 v3 v4 (v5 + 1) M h
      · have h := hf q
        refine am_Wrun 4 (ps := []) (pc' := 64) (lv' := [(0, .inr (.inl (some 69))), (1, .inl (v1)), (2, .inl (v2)), (3, .inl (v3)), (4, .inl (v4)), (5, .inl (v5))]) (st' := [.inl (v3), .inl (v5), .inl (v4), .inr (.inl (some 69))]) (M' := M) rfl trivial ?_
        refine am_WcallV (y := 128) (n := 4) (a := 69) (f := 67) (as := [.inl (v4), .inl (v5), .inl (v3)]) (st' := []) rfl rfl rfl rfl rfl rfl rfl rfl rfl rfl (Nat.zero_le _) rfl (am_CC_le (Nat.le_of_ble_eq_true rfl) (tm_X6_canJoin h)) (fun r M2 q => ?_) (fun _ _ q => q.elim)
        obtain ⟨x1, rfl, h⟩ := q
        obtain ⟨b0, ht, hf⟩ := h
        refine am_Wbr (P := [am_rg x1]) (c := x1 = 0) (t := 95) (f := 70) (st' := []) rfl rfl ⟨b0, trivial⟩ rfl (fun q => ?_) (fun q => ?_)
        · have h := ht q
          refine am_Wrun 2 (ps := []) (pc' := 33) (lv' := [(5, .inl (v5 + 1)), (0, .inr (.inl (some 69))), (1, .inl (v1)), (2, .inl (v2)), (3, .inl (v3)), (4, .inl (v4))]) (st' := []) (M' := M2) rfl trivial ?_
          refine am_W_sub [1, 2, 3, 4, 5, 0] rfl ?_
          exact tw_X6_few_33 hk12 n v1 v2 v3 v4 (v5 + 1) M2 h
        · have h := hf q
          obtain ⟨c0_0, c1_0, c2_0, h⟩ := h
          refine am_Wrun 17 (ps := [0 ≤ (v5 : Int) ∧ (v5 : Int) < 60, 0 ≤ (v4 : Int) ∧ (v4 : Int) < 60, 0 ≤ (v4 : Int) ∧ (v4 : Int) < 60]) (pc' := 33) (lv' := [(5, .inl (v5 + 1)), (0, .inr (.inl (some 69))), (1, .inl (v1)), (2, .inl (v2)), (3, .inl (v3)), (4, .inl (v4))]) (st' := []) (M' := (am_up (am_up M2 76 v4 (1 + (M2 76 v5))) 77 v4 v5)) rfl ⟨c0_0, c1_0, c2_0, trivial⟩ ?_
          refine am_W_sub [1, 2, 3, 4, 5, 0] rfl ?_
          exact tw_X6_few_33 hk12 n v1 v2 v3 v4 (v5 + 1) (am_up (am_up M2 76 v4 (1 + (M2 76 v5))) 77 v4 v5) h
set_option maxRecDepth 20000 in
theorem tw_X6_few_12 {Q : am_M → Prop} {QX : am_X} : ∀ (n : Nat) (v1 : Int) (v2 : Int) (v3 : Int) (v4 : Int) (M : am_M), wl_X6_few_12 Q n v1 v2 v3 v4 M → am_W (am_CC 5) dt_X6_few 5 0 none (am_QV Q) QX (0, 12, [(0, .inr (.inl (some 69))), (1, .inl (v1)), (2, .inl (v2)), (3, .inl (v3)), (4, .inl (v4))], [], M)
  | 0, _, _, _, _, _, h => h.elim
  | n + 1, v1, v2, v3, v4, M, h => by
    refine am_Wrun 2 (ps := []) (pc' := 15) (lv' := [(0, .inr (.inl (some 69))), (1, .inl (v1)), (2, .inl (v2)), (3, .inl (v3)), (4, .inl (v4))]) (st' := [.inl (v1), .inl (v4)]) (M' := M) rfl trivial ?_
    obtain ⟨b0, b1, ht, hf⟩ := h
    refine am_Wbr (P := [am_rg v4, am_rg v1]) (c := v4 < v1) (t := 107) (f := 18) (st' := []) rfl rfl ⟨b0, b1, trivial⟩ rfl (fun q => ?_) (fun q => ?_)
    · have h := ht q
      exact am_Wretv rfl rfl h
    · have h := hf q
      obtain ⟨c1_0, h⟩ := h
      refine am_Wrun 9 (ps := [-128 ≤ (61 : Int) ∧ (61 : Int) ≤ 127, 0 ≤ (v4 : Int) ∧ (v4 : Int) < 60]) (pc' := 33) (lv' := [(5, .inl (v4 + 1)), (0, .inr (.inl (some 69))), (1, .inl (v1)), (2, .inl (v2)), (3, .inl (v3)), (4, .inl (v4))]) (st' := []) (M' := (am_up M 76 v4 61)) rfl ⟨⟨by decide, by decide⟩, c1_0, trivial⟩ ?_
      refine am_W_sub [1, 2, 3, 4, 5, 0] rfl ?_
      obtain ⟨n33, h⟩ := h
      exact tw_X6_few_33 (tw_X6_few_12 n) n33 v1 v2 v3 v4 (v4 + 1) (am_up M 76 v4 61) h
set_option maxRecDepth 20000 in
theorem tm_X6_few {a0 a1 a2 : Int} {M : am_M} {Q : am_M → Prop} (h : wp_X6_few a0 a1 a2 M Q) : am_CC 6 149 [.inr (.inl (some 69)), .inl (a0), .inl (a1), .inl (a2)] M (am_QV Q) (fun _ _ => False) := by
  refine ⟨Nat.le_of_ble_eq_true rfl, ?_⟩
  show am_W (am_CC 5) dt_X6_few 5 0 none (am_QV Q) (am_qx 149 (fun _ _ => False)) (0, 0, [(0, .inr (.inl (some 69))), (1, .inl (a0)), (2, .inl (a1)), (3, .inl (a2))], [], M)
  obtain ⟨c0_0, h⟩ := h
  refine am_Wrun 9 (ps := [0 ≤ (a1 : Int) ∧ (a1 : Int) < 60]) (pc' := 12) (lv' := [(4, .inl (a1 - 1)), (0, .inr (.inl (some 69))), (1, .inl (a0)), (2, .inl (a1)), (3, .inl (a2))]) (st' := []) (M' := (am_up M 76 a1 1)) rfl ⟨c0_0, trivial⟩ ?_
  refine am_W_sub [1, 2, 3, 4, 0] rfl ?_
  obtain ⟨n12, h⟩ := h
  exact tw_X6_few_12 n12 a0 a1 a2 (a1 - 1) (am_up M 76 a1 1) h
abbrev dt_X6_worst : am_D := (tk_X6_worst, 6, 5, some .int, tb_hn 148)
def wl_X6_worst_9 (Q : Int → am_M → Prop) : Nat → Int → Int → Int → Int → am_M → Prop
  | 0, _, _, _, _, _ => False
  | n + 1, v1, v2, v3, v4, M => (am_rg v4) ∧ (am_rg v2) ∧ (v2 ≤ v4 → Q v3 M) ∧ (¬ v2 ≤ v4 → wp_X6_time v4 M (fun x1 M2 => wp_X6_value v4 M2 (fun x3 M4 => wp_X6_off v1 v2 x1 x3 M4 (fun x5 M6 => wp_X6_time v3 M6 (fun x7 M8 => wp_X6_value v3 M8 (fun x9 M10 => wp_X6_off v1 v2 x7 x9 M10 (fun x11 M12 => (am_rg x5) ∧ (am_rg x11) ∧ (x5 ≤ x11 → wl_X6_worst_9 Q n v1 v2 v3 (v4 + 1) M12) ∧ (¬ x5 ≤ x11 → wl_X6_worst_9 Q n v1 v2 v4 (v4 + 1) M12))))))))
def wp_X6_worst (a0 : Int) (a1 : Int) (M : am_M) (Q : Int → am_M → Prop) : Prop := ∃ e9, wl_X6_worst_9 Q e9 a0 a1 (a0 + 1) (a0 + 2) M
set_option maxRecDepth 20000 in
theorem tw_X6_worst_9 {Q : Int → am_M → Prop} {QX : am_X} : ∀ (n : Nat) (v1 : Int) (v2 : Int) (v3 : Int) (v4 : Int) (M : am_M), wl_X6_worst_9 Q n v1 v2 v3 v4 M → am_W (am_CC 3) dt_X6_worst 3 0 none (am_QI Q) QX (0, 9, [(0, .inr (.inl (some 69))), (1, .inl (v1)), (2, .inl (v2)), (3, .inl (v3)), (4, .inl (v4))], [], M)
  | 0, _, _, _, _, _, h => h.elim
  | n + 1, v1, v2, v3, v4, M, h => by
    refine am_Wrun 2 (ps := []) (pc' := 12) (lv' := [(0, .inr (.inl (some 69))), (1, .inl (v1)), (2, .inl (v2)), (3, .inl (v3)), (4, .inl (v4))]) (st' := [.inl (v2), .inl (v4)]) (M' := M) rfl trivial ?_
    obtain ⟨b0, b1, ht, hf⟩ := h
    refine am_Wbr (P := [am_rg v4, am_rg v2]) (c := v2 ≤ v4) (t := 65) (f := 15) (st' := []) rfl rfl ⟨b0, b1, trivial⟩ rfl (fun q => ?_) (fun q => ?_)
    · have h := ht q
      refine am_Wrun 1 (ps := []) (pc' := 66) (lv' := [(0, .inr (.inl (some 69))), (1, .inl (v1)), (2, .inl (v2)), (3, .inl (v3)), (4, .inl (v4))]) (st' := [.inl (v3)]) (M' := M) rfl trivial ?_
      exact am_Wreti rfl rfl h
    · have h := hf q
      refine am_Wrun 5 (ps := []) (pc' := 21) (lv' := [(0, .inr (.inl (some 69))), (1, .inl (v1)), (2, .inl (v2)), (3, .inl (v3)), (4, .inl (v4))]) (st' := [.inl (v4), .inr (.inl (some 69)), .inl (v2), .inl (v1), .inr (.inl (some 69))]) (M' := M) rfl trivial ?_
      refine am_WcallV (y := 115) (n := 2) (a := 69) (f := 24) (as := [.inl (v4)]) (st' := [.inl (v2), .inl (v1), .inr (.inl (some 69))]) rfl rfl rfl rfl rfl rfl rfl rfl rfl rfl (Nat.zero_le _) rfl (am_CC_le (Nat.le_of_ble_eq_true rfl) (tm_X6_time h)) (fun r M2 q => ?_) (fun _ _ q => q.elim)
      obtain ⟨x1, rfl, h⟩ := q
      refine am_Wrun 2 (ps := []) (pc' := 27) (lv' := [(0, .inr (.inl (some 69))), (1, .inl (v1)), (2, .inl (v2)), (3, .inl (v3)), (4, .inl (v4))]) (st' := [.inl (v4), .inr (.inl (some 69)), .inl (x1), .inl (v2), .inl (v1), .inr (.inl (some 69))]) (M' := M2) rfl trivial ?_
      refine am_WcallV (y := 120) (n := 2) (a := 69) (f := 30) (as := [.inl (v4)]) (st' := [.inl (x1), .inl (v2), .inl (v1), .inr (.inl (some 69))]) rfl rfl rfl rfl rfl rfl rfl rfl rfl rfl (Nat.zero_le _) rfl (am_CC_le (Nat.le_of_ble_eq_true rfl) (tm_X6_value h)) (fun r M4 q => ?_) (fun _ _ q => q.elim)
      obtain ⟨x3, rfl, h⟩ := q
      refine am_WcallV (y := 130) (n := 5) (a := 69) (f := 33) (as := [.inl (v1), .inl (v2), .inl (x1), .inl (x3)]) (st' := []) rfl rfl rfl rfl rfl rfl rfl rfl rfl rfl (Nat.zero_le _) rfl (am_CC_le (Nat.le_of_ble_eq_true rfl) (tm_X6_off h)) (fun r M6 q => ?_) (fun _ _ q => q.elim)
      obtain ⟨x5, rfl, h⟩ := q
      refine am_Wrun 5 (ps := []) (pc' := 38) (lv' := [(0, .inr (.inl (some 69))), (1, .inl (v1)), (2, .inl (v2)), (3, .inl (v3)), (4, .inl (v4))]) (st' := [.inl (v3), .inr (.inl (some 69)), .inl (v2), .inl (v1), .inr (.inl (some 69)), .inl (x5)]) (M' := M6) rfl trivial ?_
      refine am_WcallV (y := 115) (n := 2) (a := 69) (f := 41) (as := [.inl (v3)]) (st' := [.inl (v2), .inl (v1), .inr (.inl (some 69)), .inl (x5)]) rfl rfl rfl rfl rfl rfl rfl rfl rfl rfl (Nat.zero_le _) rfl (am_CC_le (Nat.le_of_ble_eq_true rfl) (tm_X6_time h)) (fun r M8 q => ?_) (fun _ _ q => q.elim)
      obtain ⟨x7, rfl, h⟩ := q
      refine am_Wrun 2 (ps := []) (pc' := 43) (lv' := [(0, .inr (.inl (some 69))), (1, .inl (v1)), (2, .inl (v2)), (3, .inl (v3)), (4, .inl (v4))]) (st' := [.inl (v3), .inr (.inl (some 69)), .inl (x7), .inl (v2), .inl (v1), .inr (.inl (some 69)), .inl (x5)]) (M' := M8) rfl trivial ?_
      refine am_WcallV (y := 120) (n := 2) (a := 69) (f := 46) (as := [.inl (v3)]) (st' := [.inl (x7), .inl (v2), .inl (v1), .inr (.inl (some 69)), .inl (x5)]) rfl rfl rfl rfl rfl rfl rfl rfl rfl rfl (Nat.zero_le _) rfl (am_CC_le (Nat.le_of_ble_eq_true rfl) (tm_X6_value h)) (fun r M10 q => ?_) (fun _ _ q => q.elim)
      obtain ⟨x9, rfl, h⟩ := q
      refine am_WcallV (y := 130) (n := 5) (a := 69) (f := 49) (as := [.inl (v1), .inl (v2), .inl (x7), .inl (x9)]) (st' := [.inl (x5)]) rfl rfl rfl rfl rfl rfl rfl rfl rfl rfl (Nat.zero_le _) rfl (am_CC_le (Nat.le_of_ble_eq_true rfl) (tm_X6_off h)) (fun r M12 q => ?_) (fun _ _ q => q.elim)
      obtain ⟨x11, rfl, h⟩ := q
      obtain ⟨b0, b1, ht, hf⟩ := h
      refine am_Wbr (P := [am_rg x5, am_rg x11]) (c := x5 ≤ x11) (t := 57) (f := 52) (st' := []) rfl rfl ⟨b0, b1, trivial⟩ rfl (fun q => ?_) (fun q => ?_)
      · have h := ht q
        refine am_Wrun 4 (ps := []) (pc' := 9) (lv' := [(4, .inl (v4 + 1)), (3, .inl (v3)), (0, .inr (.inl (some 69))), (1, .inl (v1)), (2, .inl (v2))]) (st' := []) (M' := M12) rfl trivial ?_
        refine am_W_sub [2, 3, 4, 1, 0] rfl ?_
        exact tw_X6_worst_9 n v1 v2 v3 (v4 + 1) M12 h
      · have h := hf q
        refine am_Wrun 5 (ps := []) (pc' := 9) (lv' := [(4, .inl (v4 + 1)), (3, .inl (v4)), (0, .inr (.inl (some 69))), (1, .inl (v1)), (2, .inl (v2))]) (st' := []) (M' := M12) rfl trivial ?_
        refine am_W_sub [2, 3, 4, 1, 0] rfl ?_
        exact tw_X6_worst_9 n v1 v2 v4 (v4 + 1) M12 h
set_option maxRecDepth 20000 in
theorem tm_X6_worst {a0 a1 : Int} {M : am_M} {Q : Int → am_M → Prop} (h : wp_X6_worst a0 a1 M Q) : am_CC 4 148 [.inr (.inl (some 69)), .inl (a0), .inl (a1)] M (am_QI Q) (fun _ _ => False) := by
  refine ⟨Nat.le_of_ble_eq_true rfl, ?_⟩
  show am_W (am_CC 3) dt_X6_worst 3 0 none (am_QI Q) (am_qx 148 (fun _ _ => False)) (0, 0, [(0, .inr (.inl (some 69))), (1, .inl (a0)), (2, .inl (a1))], [], M)
  refine am_Wrun 8 (ps := []) (pc' := 9) (lv' := [(4, .inl (a0 + 2)), (3, .inl (a0 + 1)), (0, .inr (.inl (some 69))), (1, .inl (a0)), (2, .inl (a1))]) (st' := []) (M' := M) rfl trivial ?_
  refine am_W_sub [2, 3, 4, 1, 0] rfl ?_
  obtain ⟨n9, h⟩ := h
  exact tw_X6_worst_9 n9 a0 a1 (a0 + 1) (a0 + 2) M h
abbrev dt_X6_halves : am_D := (tk_X6_halves, 6, 5, none, tb_hn 147)
def wl_X6_halves_19 (Q : am_M → Prop) (k9 : Int → Int → am_M → Prop) : Nat → Int → Int → Int → am_M → Prop
  | 0, _, _, _, _ => False
  | n + 1, v2, v3, v4, M => (0 ≤ (v4 : Int) ∧ (v4 : Int) < 60) ∧ ((am_rg (M 75 v4)) ∧ (¬ (M 75 v4) = 0 → wp_X6_canJoin v3 v4 (M 70 4) M (fun x1 M2 => (am_rg x1) ∧ (x1 = 0 → wp_X6_worst v3 v4 M2 (fun x3 M4 => (0 ≤ (x3 : Int) ∧ (x3 : Int) < 60) ∧ (k9 v2 v3 (am_up M4 75 x3 1)))) ∧ (¬ x1 = 0 → k9 v2 v4 M2))) ∧ (¬ (¬ (M 75 v4) = 0) → wl_X6_halves_19 Q k9 n v2 v3 (v4 + 1) M))
def wl_X6_halves_9 (Q : am_M → Prop) : Nat → Int → Int → am_M → Prop
  | 0, _, _, _ => False
  | n + 1, v2, v3, M => (am_rg v3) ∧ (am_rg v2) ∧ (v2 ≤ v3 → Q M) ∧ (¬ v2 ≤ v3 → ∃ e19, wl_X6_halves_19 Q (wl_X6_halves_9 Q n) e19 v2 v3 (v3 + 1) M)
def wp_X6_halves (a0 : Int) (a1 : Int) (M : am_M) (Q : am_M → Prop) : Prop := (0 ≤ (a1 : Int) ∧ (a1 : Int) < 60) ∧ (∃ e9, wl_X6_halves_9 Q e9 a1 a0 (am_up M 75 a1 1))
set_option maxRecDepth 20000 in
theorem tw_X6_halves_19 {Q : am_M → Prop} {QX : am_X} {k9 : Int → Int → am_M → Prop} (hk9 : ∀ (v2 : Int) (v3 : Int) (M : am_M), k9 v2 v3 M → am_W (am_CC 5) dt_X6_halves 5 0 none (am_QV Q) QX (0, 9, [(0, .inr (.inl (some 69))), (2, .inl (v2)), (3, .inl (v3))], [], M)) : ∀ (n : Nat) (v2 : Int) (v3 : Int) (v4 : Int) (M : am_M), wl_X6_halves_19 Q k9 n v2 v3 v4 M → am_W (am_CC 5) dt_X6_halves 5 0 none (am_QV Q) QX (0, 19, [(0, .inr (.inl (some 69))), (2, .inl (v2)), (3, .inl (v3)), (4, .inl (v4))], [], M)
  | 0, _, _, _, _, h => h.elim
  | n + 1, v2, v3, v4, M, h => by
    obtain ⟨c0_0, h⟩ := h
    refine am_Wrun 4 (ps := [0 ≤ (v4 : Int) ∧ (v4 : Int) < 60]) (pc' := 26) (lv' := [(0, .inr (.inl (some 69))), (2, .inl (v2)), (3, .inl (v3)), (4, .inl (v4))]) (st' := [.inl (M 75 v4)]) (M' := M) rfl ⟨c0_0, trivial⟩ ?_
    obtain ⟨b0, ht, hf⟩ := h
    refine am_Wbr (P := [am_rg (M 75 v4)]) (c := ¬ (M 75 v4) = 0) (t := 35) (f := 29) (st' := []) rfl rfl ⟨b0, trivial⟩ rfl (fun q => ?_) (fun q => ?_)
    · have h := ht q
      refine am_Wrun 7 (ps := [0 ≤ (4 : Int) ∧ (4 : Int) < 203]) (pc' := 45) (lv' := [(0, .inr (.inl (some 69))), (2, .inl (v2)), (3, .inl (v3)), (4, .inl (v4))]) (st' := [.inl (M 70 4), .inl (v4), .inl (v3), .inr (.inl (some 69))]) (M' := M) rfl ⟨⟨by decide, by decide⟩, trivial⟩ ?_
      refine am_WcallV (y := 128) (n := 4) (a := 69) (f := 48) (as := [.inl (v3), .inl (v4), .inl (M 70 4)]) (st' := []) rfl rfl rfl rfl rfl rfl rfl rfl rfl rfl (Nat.zero_le _) rfl (am_CC_le (Nat.le_of_ble_eq_true rfl) (tm_X6_canJoin h)) (fun r M2 q => ?_) (fun _ _ q => q.elim)
      obtain ⟨x1, rfl, h⟩ := q
      obtain ⟨b0, ht, hf⟩ := h
      refine am_Wbr (P := [am_rg x1]) (c := x1 = 0) (t := 57) (f := 51) (st' := []) rfl rfl ⟨b0, trivial⟩ rfl (fun q => ?_) (fun q => ?_)
      · have h := ht q
        refine am_Wrun 5 (ps := []) (pc' := 65) (lv' := [(0, .inr (.inl (some 69))), (2, .inl (v2)), (3, .inl (v3)), (4, .inl (v4))]) (st' := [.inl (v4), .inl (v3), .inr (.inl (some 69)), .inr (.inl (some 75))]) (M' := M2) rfl trivial ?_
        refine am_WcallV (y := 148) (n := 3) (a := 69) (f := 68) (as := [.inl (v3), .inl (v4)]) (st' := [.inr (.inl (some 75))]) rfl rfl rfl rfl rfl rfl rfl rfl rfl rfl (Nat.zero_le _) rfl (am_CC_le (Nat.le_of_ble_eq_true rfl) (tm_X6_worst h)) (fun r M4 q => ?_) (fun _ _ q => q.elim)
        obtain ⟨x3, rfl, h⟩ := q
        obtain ⟨c0_0, h⟩ := h
        refine am_Wrun 3 (ps := [0 ≤ (x3 : Int) ∧ (x3 : Int) < 60]) (pc' := 9) (lv' := [(0, .inr (.inl (some 69))), (2, .inl (v2)), (3, .inl (v3)), (4, .inl (v4))]) (st' := []) (M' := (am_up M4 75 x3 1)) rfl ⟨c0_0, trivial⟩ ?_
        refine am_W_sub [0, 1, 2] rfl ?_
        exact hk9 v2 v3 (am_up M4 75 x3 1) h
      · have h := hf q
        refine am_Wrun 4 (ps := []) (pc' := 9) (lv' := [(3, .inl (v4)), (0, .inr (.inl (some 69))), (2, .inl (v2)), (4, .inl (v4))]) (st' := []) (M' := M2) rfl trivial ?_
        refine am_W_sub [1, 2, 0] rfl ?_
        exact hk9 v2 v4 M2 h
    · have h := hf q
      refine am_Wrun 2 (ps := []) (pc' := 19) (lv' := [(4, .inl (v4 + 1)), (0, .inr (.inl (some 69))), (2, .inl (v2)), (3, .inl (v3))]) (st' := []) (M' := M) rfl trivial ?_
      refine am_W_sub [1, 2, 3, 0] rfl ?_
      exact tw_X6_halves_19 hk9 n v2 v3 (v4 + 1) M h
set_option maxRecDepth 20000 in
theorem tw_X6_halves_9 {Q : am_M → Prop} {QX : am_X} : ∀ (n : Nat) (v2 : Int) (v3 : Int) (M : am_M), wl_X6_halves_9 Q n v2 v3 M → am_W (am_CC 5) dt_X6_halves 5 0 none (am_QV Q) QX (0, 9, [(0, .inr (.inl (some 69))), (2, .inl (v2)), (3, .inl (v3))], [], M)
  | 0, _, _, _, h => h.elim
  | n + 1, v2, v3, M, h => by
    refine am_Wrun 2 (ps := []) (pc' := 11) (lv' := [(0, .inr (.inl (some 69))), (2, .inl (v2)), (3, .inl (v3))]) (st' := [.inl (v2), .inl (v3)]) (M' := M) rfl trivial ?_
    obtain ⟨b0, b1, ht, hf⟩ := h
    refine am_Wbr (P := [am_rg v3, am_rg v2]) (c := v2 ≤ v3) (t := 73) (f := 14) (st' := []) rfl rfl ⟨b0, b1, trivial⟩ rfl (fun q => ?_) (fun q => ?_)
    · have h := ht q
      exact am_Wretv rfl rfl h
    · have h := hf q
      refine am_Wrun 4 (ps := []) (pc' := 19) (lv' := [(4, .inl (v3 + 1)), (0, .inr (.inl (some 69))), (2, .inl (v2)), (3, .inl (v3))]) (st' := []) (M' := M) rfl trivial ?_
      refine am_W_sub [1, 2, 3, 0] rfl ?_
      obtain ⟨n19, h⟩ := h
      exact tw_X6_halves_19 (tw_X6_halves_9 n) n19 v2 v3 (v3 + 1) M h
set_option maxRecDepth 20000 in
theorem tm_X6_halves {a0 a1 : Int} {M : am_M} {Q : am_M → Prop} (h : wp_X6_halves a0 a1 M Q) : am_CC 6 147 [.inr (.inl (some 69)), .inl (a0), .inl (a1)] M (am_QV Q) (fun _ _ => False) := by
  refine ⟨Nat.le_of_ble_eq_true rfl, ?_⟩
  show am_W (am_CC 5) dt_X6_halves 5 0 none (am_QV Q) (am_qx 147 (fun _ _ => False)) (0, 0, [(0, .inr (.inl (some 69))), (1, .inl (a0)), (2, .inl (a1))], [], M)
  obtain ⟨c0_0, h⟩ := h
  refine am_Wrun 7 (ps := [0 ≤ (a1 : Int) ∧ (a1 : Int) < 60]) (pc' := 9) (lv' := [(3, .inl (a0)), (0, .inr (.inl (some 69))), (1, .inl (a0)), (2, .inl (a1))]) (st' := []) (M' := (am_up M 75 a1 1)) rfl ⟨c0_0, trivial⟩ ?_
  refine am_W_sub [1, 3, 0] rfl ?_
  obtain ⟨n9, h⟩ := h
  exact tw_X6_halves_9 n9 a1 a0 (am_up M 75 a1 1) h
abbrev dt_X6_far : am_D := (tk_X6_far, 6, 5, none, tb_hn 146)
def wl_X6_far_10 (Q : am_M → Prop) (k2 : Int → Int → am_M → Prop) : Nat → Int → Int → Int → am_M → Prop
  | 0, _, _, _, _ => False
  | n + 1, v2, v3, v4, M => wp_X6_canJoin v3 v4 (M 70 4) M (fun x1 M2 => (am_rg x1) ∧ (¬ x1 = 0 → (0 ≤ (v4 : Int) ∧ (v4 : Int) < 60) ∧ (k2 v2 v4 (am_up M2 75 v4 1))) ∧ (¬ (¬ x1 = 0) → wl_X6_far_10 Q k2 n v2 v3 (v4 + (-1)) M2))
def wl_X6_far_2 (Q : am_M → Prop) : Nat → Int → Int → am_M → Prop
  | 0, _, _, _ => False
  | n + 1, v2, v3, M => (am_rg v3) ∧ (am_rg v2) ∧ (v2 ≤ v3 → Q M) ∧ (¬ v2 ≤ v3 → ∃ e10, wl_X6_far_10 Q (wl_X6_far_2 Q n) e10 v2 v3 v2 M)
def wp_X6_far (a0 : Int) (a1 : Int) (M : am_M) (Q : am_M → Prop) : Prop := ∃ e2, wl_X6_far_2 Q e2 a1 a0 M
set_option maxRecDepth 20000 in
theorem tw_X6_far_10 {Q : am_M → Prop} {QX : am_X} {k2 : Int → Int → am_M → Prop} (hk2 : ∀ (v2 : Int) (v3 : Int) (M : am_M), k2 v2 v3 M → am_W (am_CC 5) dt_X6_far 5 0 none (am_QV Q) QX (0, 2, [(0, .inr (.inl (some 69))), (2, .inl (v2)), (3, .inl (v3))], [], M)) : ∀ (n : Nat) (v2 : Int) (v3 : Int) (v4 : Int) (M : am_M), wl_X6_far_10 Q k2 n v2 v3 v4 M → am_W (am_CC 5) dt_X6_far 5 0 none (am_QV Q) QX (0, 10, [(0, .inr (.inl (some 69))), (2, .inl (v2)), (3, .inl (v3)), (4, .inl (v4))], [], M)
  | 0, _, _, _, _, h => h.elim
  | n + 1, v2, v3, v4, M, h => by
    refine am_Wrun 7 (ps := [0 ≤ (4 : Int) ∧ (4 : Int) < 203]) (pc' := 20) (lv' := [(0, .inr (.inl (some 69))), (2, .inl (v2)), (3, .inl (v3)), (4, .inl (v4))]) (st' := [.inl (M 70 4), .inl (v4), .inl (v3), .inr (.inl (some 69))]) (M' := M) rfl ⟨⟨by decide, by decide⟩, trivial⟩ ?_
    refine am_WcallV (y := 128) (n := 4) (a := 69) (f := 23) (as := [.inl (v3), .inl (v4), .inl (M 70 4)]) (st' := []) rfl rfl rfl rfl rfl rfl rfl rfl rfl rfl (Nat.zero_le _) rfl (am_CC_le (Nat.le_of_ble_eq_true rfl) (tm_X6_canJoin h)) (fun r M2 q => ?_) (fun _ _ q => q.elim)
    obtain ⟨x1, rfl, h⟩ := q
    obtain ⟨b0, ht, hf⟩ := h
    refine am_Wbr (P := [am_rg x1]) (c := ¬ x1 = 0) (t := 32) (f := 26) (st' := []) rfl rfl ⟨b0, trivial⟩ rfl (fun q => ?_) (fun q => ?_)
    · have h := ht q
      obtain ⟨c0_0, h⟩ := h
      refine am_Wrun 8 (ps := [0 ≤ (v4 : Int) ∧ (v4 : Int) < 60]) (pc' := 2) (lv' := [(3, .inl (v4)), (0, .inr (.inl (some 69))), (2, .inl (v2)), (4, .inl (v4))]) (st' := []) (M' := (am_up M2 75 v4 1)) rfl ⟨c0_0, trivial⟩ ?_
      refine am_W_sub [1, 2, 0] rfl ?_
      exact hk2 v2 v4 (am_up M2 75 v4 1) h
    · have h := hf q
      refine am_Wrun 2 (ps := []) (pc' := 10) (lv' := [(4, .inl (v4 + (-1))), (0, .inr (.inl (some 69))), (2, .inl (v2)), (3, .inl (v3))]) (st' := []) (M' := M2) rfl trivial ?_
      refine am_W_sub [1, 2, 3, 0] rfl ?_
      exact tw_X6_far_10 hk2 n v2 v3 (v4 + (-1)) M2 h
set_option maxRecDepth 20000 in
theorem tw_X6_far_2 {Q : am_M → Prop} {QX : am_X} : ∀ (n : Nat) (v2 : Int) (v3 : Int) (M : am_M), wl_X6_far_2 Q n v2 v3 M → am_W (am_CC 5) dt_X6_far 5 0 none (am_QV Q) QX (0, 2, [(0, .inr (.inl (some 69))), (2, .inl (v2)), (3, .inl (v3))], [], M)
  | 0, _, _, _, h => h.elim
  | n + 1, v2, v3, M, h => by
    refine am_Wrun 2 (ps := []) (pc' := 4) (lv' := [(0, .inr (.inl (some 69))), (2, .inl (v2)), (3, .inl (v3))]) (st' := [.inl (v2), .inl (v3)]) (M' := M) rfl trivial ?_
    obtain ⟨b0, b1, ht, hf⟩ := h
    refine am_Wbr (P := [am_rg v3, am_rg v2]) (c := v2 ≤ v3) (t := 46) (f := 7) (st' := []) rfl rfl ⟨b0, b1, trivial⟩ rfl (fun q => ?_) (fun q => ?_)
    · have h := ht q
      exact am_Wretv rfl rfl h
    · have h := hf q
      refine am_Wrun 2 (ps := []) (pc' := 10) (lv' := [(4, .inl (v2)), (0, .inr (.inl (some 69))), (2, .inl (v2)), (3, .inl (v3))]) (st' := []) (M' := M) rfl trivial ?_
      refine am_W_sub [1, 2, 3, 0] rfl ?_
      obtain ⟨n10, h⟩ := h
      exact tw_X6_far_10 (tw_X6_far_2 n) n10 v2 v3 v2 M h
set_option maxRecDepth 20000 in
theorem tm_X6_far {a0 a1 : Int} {M : am_M} {Q : am_M → Prop} (h : wp_X6_far a0 a1 M Q) : am_CC 6 146 [.inr (.inl (some 69)), .inl (a0), .inl (a1)] M (am_QV Q) (fun _ _ => False) := by
  refine ⟨Nat.le_of_ble_eq_true rfl, ?_⟩
  show am_W (am_CC 5) dt_X6_far 5 0 none (am_QV Q) (am_qx 146 (fun _ _ => False)) (0, 0, [(0, .inr (.inl (some 69))), (1, .inl (a0)), (2, .inl (a1))], [], M)
  refine am_Wrun 2 (ps := []) (pc' := 2) (lv' := [(3, .inl (a0)), (0, .inr (.inl (some 69))), (1, .inl (a0)), (2, .inl (a1))]) (st' := []) (M' := M) rfl trivial ?_
  refine am_W_sub [1, 3, 0] rfl ?_
  obtain ⟨n2, h⟩ := h
  exact tw_X6_far_2 n2 a1 a0 M h
abbrev dt_X6_choose : am_D := (tk_X6_choose, 6, 5, some .int, tb_hn 144)
def wl_X6_choose_131 (Q : Int → am_M → Prop) : Nat → Int → Int → am_M → Prop
  | 0, _, _, _ => False
  | n + 1, v3, v4, M => (am_rg v4) ∧ (am_rg (M 70 0)) ∧ ((M 70 0) ≤ v4 → Q v3 M) ∧ (¬ (M 70 0) ≤ v4 → (0 ≤ (v4 : Int) ∧ (v4 : Int) < 60) ∧ (wl_X6_choose_131 Q n (v3 + (M 75 v4)) (v4 + 1) M))
def wl_X6_choose_88 (Q : Int → am_M → Prop) (k23 : Int → Int → am_M → Prop) : Nat → Int → Int → Int → am_M → Prop
  | 0, _, _, _, _ => False
  | n + 1, v1, v3, v4, M => (am_rg v4) ∧ (am_rg v3) ∧ (v3 ≤ v4 → k23 v1 (v3 + 1) M) ∧ (¬ v3 ≤ v4 → (0 ≤ (v4 : Int) ∧ (v4 : Int) < 60) ∧ (0 ≤ (M 77 v4 : Int) ∧ (M 77 v4 : Int) < 60) ∧ (0 ≤ (v4 : Int) ∧ (v4 : Int) < 60) ∧ (wl_X6_choose_88 Q k23 n v1 v3 ((am_up M 75 (M 77 v4) 1) 77 v4) (am_up M 75 (M 77 v4) 1)))
def wl_X6_choose_23 (Q : Int → am_M → Prop) : Nat → Int → Int → am_M → Prop
  | 0, _, _, _ => False
  | n + 1, v1, v2, M => (am_rg v2) ∧ (am_rg (M 70 0)) ∧ ((M 70 0) ≤ v2 → ∃ e131, wl_X6_choose_131 Q e131 0 0 M) ∧ (¬ (M 70 0) ≤ v2 → wp_X6_lastWith v2 M (fun x1 M2 => (0 ≤ (v2 : Int) ∧ (v2 : Int) < 60) ∧ ((am_rg v1) ∧ (¬ v1 = 0 → (am_rg v1) ∧ (¬ v1 = 1 → wp_X6_few v2 x1 ((am_up M2 75 v2 1) 70 4) (am_up M2 75 v2 1) (fun M3 => ∃ e88, wl_X6_choose_88 Q (wl_X6_choose_23 Q n) e88 v1 x1 v2 M3)) ∧ (¬ (¬ v1 = 1) → wp_X6_halves v2 x1 (am_up M2 75 v2 1) (fun M4 => wl_X6_choose_23 Q n v1 (x1 + 1) M4))) ∧ (¬ (¬ v1 = 0) → wp_X6_far v2 x1 (am_up M2 75 v2 1) (fun M5 => wl_X6_choose_23 Q n v1 (x1 + 1) M5)))))
def wl_X6_choose_2 (Q : Int → am_M → Prop) : Nat → Int → Int → am_M → Prop
  | 0, _, _, _ => False
  | n + 1, v1, v2, M => (am_rg v2) ∧ (60 ≤ v2 → ∃ e23, wl_X6_choose_23 Q e23 v1 0 M) ∧ (¬ 60 ≤ v2 → (0 ≤ (v2 : Int) ∧ (v2 : Int) < 60) ∧ (wl_X6_choose_2 Q n v1 (v2 + 1) (am_up M 75 v2 0)))
def wp_X6_choose (a0 : Int) (M : am_M) (Q : Int → am_M → Prop) : Prop := ∃ e2, wl_X6_choose_2 Q e2 a0 0 M
set_option maxRecDepth 20000 in
theorem tw_X6_choose_131 {Q : Int → am_M → Prop} {QX : am_X} : ∀ (n : Nat) (v3 : Int) (v4 : Int) (M : am_M), wl_X6_choose_131 Q n v3 v4 M → am_W (am_CC 6) dt_X6_choose 6 0 none (am_QI Q) QX (0, 131, [(0, .inr (.inl (some 69))), (3, .inl (v3)), (4, .inl (v4))], [], M)
  | 0, _, _, _, h => h.elim
  | n + 1, v3, v4, M, h => by
    refine am_Wrun 5 (ps := [0 ≤ (0 : Int) ∧ (0 : Int) < 203]) (pc' := 139) (lv' := [(0, .inr (.inl (some 69))), (3, .inl (v3)), (4, .inl (v4))]) (st' := [.inl (M 70 0), .inl (v4)]) (M' := M) rfl ⟨⟨by decide, by decide⟩, trivial⟩ ?_
    obtain ⟨b0, b1, ht, hf⟩ := h
    refine am_Wbr (P := [am_rg v4, am_rg (M 70 0)]) (c := (M 70 0) ≤ v4) (t := 158) (f := 142) (st' := []) rfl rfl ⟨b0, b1, trivial⟩ rfl (fun q => ?_) (fun q => ?_)
    · have h := ht q
      refine am_Wrun 1 (ps := []) (pc' := 159) (lv' := [(0, .inr (.inl (some 69))), (3, .inl (v3)), (4, .inl (v4))]) (st' := [.inl (v3)]) (M' := M) rfl trivial ?_
      exact am_Wreti rfl rfl h
    · have h := hf q
      obtain ⟨c0_0, h⟩ := h
      refine am_Wrun 9 (ps := [0 ≤ (v4 : Int) ∧ (v4 : Int) < 60]) (pc' := 131) (lv' := [(4, .inl (v4 + 1)), (3, .inl (v3 + (M 75 v4))), (0, .inr (.inl (some 69)))]) (st' := []) (M' := M) rfl ⟨c0_0, trivial⟩ ?_
      refine am_W_sub [2, 1, 0] rfl ?_
      exact tw_X6_choose_131 n (v3 + (M 75 v4)) (v4 + 1) M h
set_option maxRecDepth 20000 in
theorem tw_X6_choose_88 {Q : Int → am_M → Prop} {QX : am_X} {k23 : Int → Int → am_M → Prop} (hk23 : ∀ (v1 : Int) (v2 : Int) (M : am_M), k23 v1 v2 M → am_W (am_CC 6) dt_X6_choose 6 0 none (am_QI Q) QX (0, 23, [(0, .inr (.inl (some 69))), (1, .inl (v1)), (2, .inl (v2))], [], M)) : ∀ (n : Nat) (v1 : Int) (v3 : Int) (v4 : Int) (M : am_M), wl_X6_choose_88 Q k23 n v1 v3 v4 M → am_W (am_CC 6) dt_X6_choose 6 0 none (am_QI Q) QX (0, 88, [(0, .inr (.inl (some 69))), (1, .inl (v1)), (3, .inl (v3)), (4, .inl (v4))], [], M)
  | 0, _, _, _, _, h => h.elim
  | n + 1, v1, v3, v4, M, h => by
    refine am_Wrun 2 (ps := []) (pc' := 91) (lv' := [(0, .inr (.inl (some 69))), (1, .inl (v1)), (3, .inl (v3)), (4, .inl (v4))]) (st' := [.inl (v3), .inl (v4)]) (M' := M) rfl trivial ?_
    obtain ⟨b0, b1, ht, hf⟩ := h
    refine am_Wbr (P := [am_rg v4, am_rg v3]) (c := v3 ≤ v4) (t := 119) (f := 94) (st' := []) rfl rfl ⟨b0, b1, trivial⟩ rfl (fun q => ?_) (fun q => ?_)
    · have h := ht q
      refine am_Wrun 5 (ps := []) (pc' := 23) (lv' := [(2, .inl (v3 + 1)), (0, .inr (.inl (some 69))), (1, .inl (v1)), (3, .inl (v3)), (4, .inl (v4))]) (st' := []) (M' := M) rfl trivial ?_
      refine am_W_sub [1, 2, 0] rfl ?_
      exact hk23 v1 (v3 + 1) M h
    · have h := hf q
      obtain ⟨c0_0, c1_0, c2_0, h⟩ := h
      refine am_Wrun 14 (ps := [0 ≤ (v4 : Int) ∧ (v4 : Int) < 60, 0 ≤ (M 77 v4 : Int) ∧ (M 77 v4 : Int) < 60, 0 ≤ (v4 : Int) ∧ (v4 : Int) < 60]) (pc' := 88) (lv' := [(4, .inl ((am_up M 75 (M 77 v4) 1) 77 v4)), (0, .inr (.inl (some 69))), (1, .inl (v1)), (3, .inl (v3))]) (st' := []) (M' := (am_up M 75 (M 77 v4) 1)) rfl ⟨c0_0, c1_0, c2_0, trivial⟩ ?_
      refine am_W_sub [1, 2, 3, 0] rfl ?_
      exact tw_X6_choose_88 hk23 n v1 v3 ((am_up M 75 (M 77 v4) 1) 77 v4) (am_up M 75 (M 77 v4) 1) h
set_option maxRecDepth 20000 in
theorem tw_X6_choose_23 {Q : Int → am_M → Prop} {QX : am_X} : ∀ (n : Nat) (v1 : Int) (v2 : Int) (M : am_M), wl_X6_choose_23 Q n v1 v2 M → am_W (am_CC 6) dt_X6_choose 6 0 none (am_QI Q) QX (0, 23, [(0, .inr (.inl (some 69))), (1, .inl (v1)), (2, .inl (v2))], [], M)
  | 0, _, _, _, h => h.elim
  | n + 1, v1, v2, M, h => by
    refine am_Wrun 5 (ps := [0 ≤ (0 : Int) ∧ (0 : Int) < 203]) (pc' := 30) (lv' := [(0, .inr (.inl (some 69))), (1, .inl (v1)), (2, .inl (v2))]) (st' := [.inl (M 70 0), .inl (v2)]) (M' := M) rfl ⟨⟨by decide, by decide⟩, trivial⟩ ?_
    obtain ⟨b0, b1, ht, hf⟩ := h
    refine am_Wbr (P := [am_rg v2, am_rg (M 70 0)]) (c := (M 70 0) ≤ v2) (t := 126) (f := 33) (st' := []) rfl rfl ⟨b0, b1, trivial⟩ rfl (fun q => ?_) (fun q => ?_)
    · have h := ht q
      refine am_Wrun 4 (ps := []) (pc' := 131) (lv' := [(4, .inl (0)), (3, .inl (0)), (0, .inr (.inl (some 69))), (1, .inl (v1)), (2, .inl (v2))]) (st' := []) (M' := M) rfl trivial ?_
      refine am_W_sub [2, 1, 0] rfl ?_
      obtain ⟨n131, h⟩ := h
      exact tw_X6_choose_131 n131 0 0 M h
    · have h := hf q
      refine am_Wrun 2 (ps := []) (pc' := 35) (lv' := [(0, .inr (.inl (some 69))), (1, .inl (v1)), (2, .inl (v2))]) (st' := [.inl (v2), .inr (.inl (some 69))]) (M' := M) rfl trivial ?_
      refine am_WcallV (y := 145) (n := 2) (a := 69) (f := 38) (as := [.inl (v2)]) (st' := []) rfl rfl rfl rfl rfl rfl rfl rfl rfl rfl (Nat.zero_le _) rfl (am_CC_le (Nat.le_of_ble_eq_true rfl) (tm_X6_lastWith h)) (fun r M2 q => ?_) (fun _ _ q => q.elim)
      obtain ⟨x1, rfl, h⟩ := q
      obtain ⟨c0_0, h⟩ := h
      refine am_Wrun 7 (ps := [0 ≤ (v2 : Int) ∧ (v2 : Int) < 60]) (pc' := 47) (lv' := [(3, .inl (x1)), (0, .inr (.inl (some 69))), (1, .inl (v1)), (2, .inl (v2))]) (st' := [.inl (v1)]) (M' := (am_up M2 75 v2 1)) rfl ⟨c0_0, trivial⟩ ?_
      obtain ⟨b0, ht, hf⟩ := h
      refine am_Wbr (P := [am_rg v1]) (c := ¬ v1 = 0) (t := 59) (f := 50) (st' := []) rfl rfl ⟨b0, trivial⟩ rfl (fun q => ?_) (fun q => ?_)
      · have h := ht q
        refine am_Wrun 2 (ps := []) (pc' := 61) (lv' := [(3, .inl (x1)), (0, .inr (.inl (some 69))), (1, .inl (v1)), (2, .inl (v2))]) (st' := [.inl (1), .inl (v1)]) (M' := (am_up M2 75 v2 1)) rfl trivial ?_
        obtain ⟨b0, ht, hf⟩ := h
        refine am_Wbr (P := [am_rg v1, am_rg 1]) (c := ¬ v1 = 1) (t := 73) (f := 64) (st' := []) rfl rfl ⟨b0, (am_rgd rfl), trivial⟩ rfl (fun q => ?_) (fun q => ?_)
        · have h := ht q
          refine am_Wrun 7 (ps := [0 ≤ (4 : Int) ∧ (4 : Int) < 203]) (pc' := 82) (lv' := [(3, .inl (x1)), (0, .inr (.inl (some 69))), (1, .inl (v1)), (2, .inl (v2))]) (st' := [.inl ((am_up M2 75 v2 1) 70 4), .inl (x1), .inl (v2), .inr (.inl (some 69))]) (M' := (am_up M2 75 v2 1)) rfl ⟨⟨by decide, by decide⟩, trivial⟩ ?_
          refine am_WcallV (y := 149) (n := 4) (a := 69) (f := 85) (as := [.inl (v2), .inl (x1), .inl ((am_up M2 75 v2 1) 70 4)]) (st' := []) rfl rfl rfl rfl rfl rfl rfl rfl rfl rfl (Nat.zero_le _) rfl (am_CC_le (Nat.le_of_ble_eq_true rfl) (tm_X6_few h)) (fun r M3 q => ?_) (fun _ _ q => q.elim)
          obtain ⟨rfl, h⟩ := q
          refine am_Wrun 2 (ps := []) (pc' := 88) (lv' := [(4, .inl (v2)), (3, .inl (x1)), (0, .inr (.inl (some 69))), (1, .inl (v1)), (2, .inl (v2))]) (st' := []) (M' := M3) rfl trivial ?_
          refine am_W_sub [2, 3, 1, 0] rfl ?_
          obtain ⟨n88, h⟩ := h
          exact tw_X6_choose_88 (tw_X6_choose_23 n) n88 v1 x1 v2 M3 h
        · have h := hf q
          refine am_Wrun 3 (ps := []) (pc' := 67) (lv' := [(3, .inl (x1)), (0, .inr (.inl (some 69))), (1, .inl (v1)), (2, .inl (v2))]) (st' := [.inl (x1), .inl (v2), .inr (.inl (some 69))]) (M' := (am_up M2 75 v2 1)) rfl trivial ?_
          refine am_WcallV (y := 147) (n := 3) (a := 69) (f := 70) (as := [.inl (v2), .inl (x1)]) (st' := []) rfl rfl rfl rfl rfl rfl rfl rfl rfl rfl (Nat.zero_le _) rfl (am_CC_le (Nat.le_of_ble_eq_true rfl) (tm_X6_halves h)) (fun r M4 q => ?_) (fun _ _ q => q.elim)
          obtain ⟨rfl, h⟩ := q
          refine am_Wrun 6 (ps := []) (pc' := 23) (lv' := [(2, .inl (x1 + 1)), (3, .inl (x1)), (0, .inr (.inl (some 69))), (1, .inl (v1))]) (st' := []) (M' := M4) rfl trivial ?_
          refine am_W_sub [2, 3, 0] rfl ?_
          exact tw_X6_choose_23 n v1 (x1 + 1) M4 h
      · have h := hf q
        refine am_Wrun 3 (ps := []) (pc' := 53) (lv' := [(3, .inl (x1)), (0, .inr (.inl (some 69))), (1, .inl (v1)), (2, .inl (v2))]) (st' := [.inl (x1), .inl (v2), .inr (.inl (some 69))]) (M' := (am_up M2 75 v2 1)) rfl trivial ?_
        refine am_WcallV (y := 146) (n := 3) (a := 69) (f := 56) (as := [.inl (v2), .inl (x1)]) (st' := []) rfl rfl rfl rfl rfl rfl rfl rfl rfl rfl (Nat.zero_le _) rfl (am_CC_le (Nat.le_of_ble_eq_true rfl) (tm_X6_far h)) (fun r M5 q => ?_) (fun _ _ q => q.elim)
        obtain ⟨rfl, h⟩ := q
        refine am_Wrun 6 (ps := []) (pc' := 23) (lv' := [(2, .inl (x1 + 1)), (3, .inl (x1)), (0, .inr (.inl (some 69))), (1, .inl (v1))]) (st' := []) (M' := M5) rfl trivial ?_
        refine am_W_sub [2, 3, 0] rfl ?_
        exact tw_X6_choose_23 n v1 (x1 + 1) M5 h
set_option maxRecDepth 20000 in
theorem tw_X6_choose_2 {Q : Int → am_M → Prop} {QX : am_X} : ∀ (n : Nat) (v1 : Int) (v2 : Int) (M : am_M), wl_X6_choose_2 Q n v1 v2 M → am_W (am_CC 6) dt_X6_choose 6 0 none (am_QI Q) QX (0, 2, [(0, .inr (.inl (some 69))), (1, .inl (v1)), (2, .inl (v2))], [], M)
  | 0, _, _, _, h => h.elim
  | n + 1, v1, v2, M, h => by
    refine am_Wrun 2 (ps := [-128 ≤ (60 : Int) ∧ (60 : Int) ≤ 127]) (pc' := 5) (lv' := [(0, .inr (.inl (some 69))), (1, .inl (v1)), (2, .inl (v2))]) (st' := [.inl (60), .inl (v2)]) (M' := M) rfl ⟨⟨by decide, by decide⟩, trivial⟩ ?_
    obtain ⟨b0, ht, hf⟩ := h
    refine am_Wbr (P := [am_rg v2, am_rg 60]) (c := 60 ≤ v2) (t := 21) (f := 8) (st' := []) rfl rfl ⟨b0, (am_rgd rfl), trivial⟩ rfl (fun q => ?_) (fun q => ?_)
    · have h := ht q
      refine am_Wrun 2 (ps := []) (pc' := 23) (lv' := [(2, .inl (0)), (0, .inr (.inl (some 69))), (1, .inl (v1))]) (st' := []) (M' := M) rfl trivial ?_
      refine am_W_sub [1, 2, 0] rfl ?_
      obtain ⟨n23, h⟩ := h
      exact tw_X6_choose_23 n23 v1 0 M h
    · have h := hf q
      obtain ⟨c0_0, h⟩ := h
      refine am_Wrun 7 (ps := [0 ≤ (v2 : Int) ∧ (v2 : Int) < 60]) (pc' := 2) (lv' := [(2, .inl (v2 + 1)), (0, .inr (.inl (some 69))), (1, .inl (v1))]) (st' := []) (M' := (am_up M 75 v2 0)) rfl ⟨c0_0, trivial⟩ ?_
      refine am_W_sub [1, 2, 0] rfl ?_
      exact tw_X6_choose_2 n v1 (v2 + 1) (am_up M 75 v2 0) h
set_option maxRecDepth 20000 in
theorem tm_X6_choose {a0 : Int} {M : am_M} {Q : Int → am_M → Prop} (h : wp_X6_choose a0 M Q) : am_CC 7 144 [.inr (.inl (some 69)), .inl (a0)] M (am_QI Q) (fun _ _ => False) := by
  refine ⟨Nat.le_of_ble_eq_true rfl, ?_⟩
  show am_W (am_CC 6) dt_X6_choose 6 0 none (am_QI Q) (am_qx 144 (fun _ _ => False)) (0, 0, [(0, .inr (.inl (some 69))), (1, .inl (a0))], [], M)
  refine am_Wrun 2 (ps := []) (pc' := 2) (lv' := [(2, .inl (0)), (0, .inr (.inl (some 69))), (1, .inl (a0))]) (st' := []) (M' := M) rfl trivial ?_
  refine am_W_sub [1, 2, 0] rfl ?_
  obtain ⟨n2, h⟩ := h
  exact tw_X6_choose_2 n2 a0 0 M h
abbrev dt_X6_thin : am_D := (tk_X6_thin, 6, 4, some .int, tb_hn 143)
def wl_X6_thin_32 (Q : Int → am_M → Prop) : Nat → Int → Int → am_M → Prop
  | 0, _, _, _ => False
  | n + 1, v2, v3, M => (am_rg v3) ∧ (am_rg (M 70 0)) ∧ ((M 70 0) ≤ v3 → Q v2 (am_up M 70 2 ((M 70 2) + 1))) ∧ (¬ (M 70 0) ≤ v3 → (0 ≤ (v3 : Int) ∧ (v3 : Int) < 60) ∧ (0 ≤ (127 + v3 : Int) ∧ (127 + v3 : Int) < 203) ∧ (wl_X6_thin_32 Q n v2 (v3 + 1) (am_up M 70 (127 + v3) (M 75 v3))))
def wp_X6_thin (a0 : Int) (M : am_M) (Q : Int → am_M → Prop) : Prop := wp_X6_in a0 0 2 (am_up M 69 5 0) (fun x1 M2 => (am_rg x1) ∧ (¬ x1 = 0 → wp_X6_save M2 (fun M3 => wp_X6_choose a0 M3 (fun x4 M5 => ∃ e32, wl_X6_thin_32 Q e32 x4 0 M5))) ∧ (¬ (¬ x1 = 0) → wp_X6_fails 1 M2 (fun x6 M7 => Q x6 M7)))
set_option maxRecDepth 20000 in
theorem tw_X6_thin_32 {Q : Int → am_M → Prop} {QX : am_X} : ∀ (n : Nat) (v2 : Int) (v3 : Int) (M : am_M), wl_X6_thin_32 Q n v2 v3 M → am_W (am_CC 7) dt_X6_thin 7 0 none (am_QI Q) QX (0, 32, [(0, .inr (.inl (some 69))), (2, .inl (v2)), (3, .inl (v3))], [], M)
  | 0, _, _, _, h => h.elim
  | n + 1, v2, v3, M, h => by
    refine am_Wrun 5 (ps := [0 ≤ (0 : Int) ∧ (0 : Int) < 203]) (pc' := 39) (lv' := [(0, .inr (.inl (some 69))), (2, .inl (v2)), (3, .inl (v3))]) (st' := [.inl (M 70 0), .inl (v3)]) (M' := M) rfl ⟨⟨by decide, by decide⟩, trivial⟩ ?_
    obtain ⟨b0, b1, ht, hf⟩ := h
    refine am_Wbr (P := [am_rg v3, am_rg (M 70 0)]) (c := (M 70 0) ≤ v3) (t := 63) (f := 42) (st' := []) rfl rfl ⟨b0, b1, trivial⟩ rfl (fun q => ?_) (fun q => ?_)
    · have h := ht q
      refine am_Wrun 9 (ps := [0 ≤ (2 : Int) ∧ (2 : Int) < 203, 0 ≤ (2 : Int) ∧ (2 : Int) < 203]) (pc' := 74) (lv' := [(0, .inr (.inl (some 69))), (2, .inl (v2)), (3, .inl (v3))]) (st' := [.inl (v2)]) (M' := (am_up M 70 2 ((M 70 2) + 1))) rfl ⟨⟨by decide, by decide⟩, ⟨by decide, by decide⟩, trivial⟩ ?_
      exact am_Wreti rfl rfl h
    · have h := hf q
      obtain ⟨c1_0, c2_0, h⟩ := h
      refine am_Wrun 12 (ps := [-128 ≤ (127 : Int) ∧ (127 : Int) ≤ 127, 0 ≤ (v3 : Int) ∧ (v3 : Int) < 60, 0 ≤ (127 + v3 : Int) ∧ (127 + v3 : Int) < 203]) (pc' := 32) (lv' := [(3, .inl (v3 + 1)), (0, .inr (.inl (some 69))), (2, .inl (v2))]) (st' := []) (M' := (am_up M 70 (127 + v3) (M 75 v3))) rfl ⟨⟨by decide, by decide⟩, c1_0, c2_0, trivial⟩ ?_
      refine am_W_sub [1, 2, 0] rfl ?_
      exact tw_X6_thin_32 n v2 (v3 + 1) (am_up M 70 (127 + v3) (M 75 v3)) h
set_option maxRecDepth 20000 in
theorem tm_X6_thin {a0 : Int} {M : am_M} {Q : Int → am_M → Prop} (h : wp_X6_thin a0 M Q) : am_CC 8 143 [.inr (.inl (some 69)), .inl (a0)] M (am_QI Q) (fun _ _ => False) := by
  refine ⟨Nat.le_of_ble_eq_true rfl, ?_⟩
  show am_W (am_CC 7) dt_X6_thin 7 0 none (am_QI Q) (am_qx 143 (fun _ _ => False)) (0, 0, [(0, .inr (.inl (some 69))), (1, .inl (a0))], [], M)
  refine am_Wrun 6 (ps := []) (pc' := 8) (lv' := [(0, .inr (.inl (some 69))), (1, .inl (a0))]) (st' := [.inl (2), .inl (0), .inl (a0)]) (M' := (am_up M 69 5 0)) rfl trivial ?_
  refine am_WcallS (y := 112) (n := 3) (f := 11) (co := 0) (as := [.inl (a0), .inl (0), .inl (2)]) (st' := []) rfl rfl rfl rfl rfl rfl rfl rfl rfl (Nat.zero_le _) rfl (am_CC_le (Nat.le_of_ble_eq_true rfl) (tm_X6_in h)) (fun r M2 q => ?_) (fun _ _ q => q.elim)
  obtain ⟨x1, rfl, h⟩ := q
  obtain ⟨b0, ht, hf⟩ := h
  refine am_Wbr (P := [am_rg x1]) (c := ¬ x1 = 0) (t := 20) (f := 14) (st' := []) rfl rfl ⟨b0, trivial⟩ rfl (fun q => ?_) (fun q => ?_)
  · have h := ht q
    refine am_Wrun 1 (ps := []) (pc' := 21) (lv' := [(0, .inr (.inl (some 69))), (1, .inl (a0))]) (st' := [.inr (.inl (some 69))]) (M' := M2) rfl trivial ?_
    refine am_WcallV (y := 116) (n := 1) (a := 69) (f := 24) (as := []) (st' := []) rfl rfl rfl rfl rfl rfl rfl rfl rfl rfl (Nat.zero_le _) rfl (am_CC_le (Nat.le_of_ble_eq_true rfl) (tm_X6_save h)) (fun r M3 q => ?_) (fun _ _ q => q.elim)
    obtain ⟨rfl, h⟩ := q
    refine am_Wrun 2 (ps := []) (pc' := 26) (lv' := [(0, .inr (.inl (some 69))), (1, .inl (a0))]) (st' := [.inl (a0), .inr (.inl (some 69))]) (M' := M3) rfl trivial ?_
    refine am_WcallV (y := 144) (n := 2) (a := 69) (f := 29) (as := [.inl (a0)]) (st' := []) rfl rfl rfl rfl rfl rfl rfl rfl rfl rfl (Nat.zero_le _) rfl (am_CC_le (Nat.le_of_ble_eq_true rfl) (tm_X6_choose h)) (fun r M5 q => ?_) (fun _ _ q => q.elim)
    obtain ⟨x4, rfl, h⟩ := q
    refine am_Wrun 3 (ps := []) (pc' := 32) (lv' := [(3, .inl (0)), (2, .inl (x4)), (0, .inr (.inl (some 69))), (1, .inl (a0))]) (st' := []) (M' := M5) rfl trivial ?_
    refine am_W_sub [2, 1, 0] rfl ?_
    obtain ⟨n32, h⟩ := h
    exact tw_X6_thin_32 n32 x4 0 M5 h
  · have h := hf q
    refine am_Wrun 2 (ps := []) (pc' := 16) (lv' := [(0, .inr (.inl (some 69))), (1, .inl (a0))]) (st' := [.inl (1), .inr (.inl (some 69))]) (M' := M2) rfl trivial ?_
    refine am_WcallV (y := 113) (n := 2) (a := 69) (f := 19) (as := [.inl (1)]) (st' := []) rfl rfl rfl rfl rfl rfl rfl rfl rfl rfl (Nat.zero_le _) rfl (am_CC_le (Nat.le_of_ble_eq_true rfl) (tm_X6_fails h)) (fun r M7 q => ?_) (fun _ _ q => q.elim)
    obtain ⟨x6, rfl, h⟩ := q
    exact am_Wreti rfl rfl h
abbrev dt_X2_stretchCount : am_D := (tk_X2_stretchCount, 2, 1, some .int, tb_hn 36)
def wp_X2_stretchCount (M : am_M) (Q : Int → am_M → Prop) : Prop := wp_X2_hasPoint ((M 1 7) - 1) M (fun x1 M2 => (am_rg x1) ∧ (x1 = 0 → Q 0 M2) ∧ (¬ x1 = 0 → (0 ≤ ((M2 1 7) - 1 : Int) ∧ ((M2 1 7) - 1 : Int) < 60) ∧ (Q ((M2 5 ((M2 1 7) - 1)) + 1) M2)))
set_option maxRecDepth 20000 in
theorem tm_X2_stretchCount {M : am_M} {Q : Int → am_M → Prop} (h : wp_X2_stretchCount M Q) : am_CC 2 36 [.inr (.inl (some 1))] M (am_QI Q) (fun _ _ => False) := by
  refine ⟨Nat.le_of_ble_eq_true rfl, ?_⟩
  show am_W (am_CC 1) dt_X2_stretchCount 1 0 none (am_QI Q) (am_qx 36 (fun _ _ => False)) (0, 0, [(0, .inr (.inl (some 1)))], [], M)
  refine am_Wrun 5 (ps := []) (pc' := 7) (lv' := [(0, .inr (.inl (some 1)))]) (st' := [.inl ((M 1 7) - 1), .inr (.inl (some 1))]) (M' := M) rfl trivial ?_
  refine am_WcallV (y := 9) (n := 2) (a := 1) (f := 10) (as := [.inl ((M 1 7) - 1)]) (st' := []) rfl rfl rfl rfl rfl rfl rfl rfl rfl rfl (Nat.zero_le _) rfl (am_CC_le (Nat.le_of_ble_eq_true rfl) (tm_X2_hasPoint h)) (fun r M2 q => ?_) (fun _ _ q => q.elim)
  obtain ⟨x1, rfl, h⟩ := q
  obtain ⟨b0, ht, hf⟩ := h
  refine am_Wbr (P := [am_rg x1]) (c := x1 = 0) (t := 29) (f := 13) (st' := []) rfl rfl ⟨b0, trivial⟩ rfl (fun q => ?_) (fun q => ?_)
  · have h := ht q
    refine am_Wrun 1 (ps := []) (pc' := 30) (lv' := [(0, .inr (.inl (some 1)))]) (st' := [.inl (0)]) (M' := M2) rfl trivial ?_
    exact am_Wreti rfl rfl h
  · have h := hf q
    obtain ⟨c0_0, h⟩ := h
    refine am_Wrun 10 (ps := [0 ≤ ((M2 1 7) - 1 : Int) ∧ ((M2 1 7) - 1 : Int) < 60]) (pc' := 30) (lv' := [(0, .inr (.inl (some 1)))]) (st' := [.inl ((M2 5 ((M2 1 7) - 1)) + 1)]) (M' := M2) rfl ⟨c0_0, trivial⟩ ?_
    exact am_Wreti rfl rfl h
abbrev dt_X5_refuseNoStretch : am_D := (tk_X5_refuseNoStretch, 5, 2, none, tb_hn 51)
def wj_X5_refuseNoStretch_15 (Q : am_M → Prop) (X : am_X) (M : am_M) : Prop := X 2 M
def wp_X5_refuseNoStretch (a0 : Int) (M : am_M) (Q : am_M → Prop) (X : am_X) : Prop := (am_rg a0) ∧ (a0 < 0 → wj_X5_refuseNoStretch_15 Q X  M) ∧ (¬ a0 < 0 → wp_X2_stretchCount M (fun x1 M2 => (am_rg a0) ∧ (am_rg x1) ∧ (a0 < x1 → Q M2) ∧ (¬ a0 < x1 → wj_X5_refuseNoStretch_15 Q X  M2)))
set_option maxRecDepth 20000 in
theorem tj_X5_refuseNoStretch_15 {Q : am_M → Prop} {X : am_X} {QX : am_X} (hX : ∀ E M, X E M → QX E M) (M : am_M) (h : wj_X5_refuseNoStretch_15 Q X M) : am_W (am_CC 5) dt_X5_refuseNoStretch 5 0 none (am_QV Q) QX (0, 15, [], [], M) := by
  exact am_Wthr (is := 344) (ic := 256) (E := 2) rfl (Nat.le_of_ble_eq_true rfl) rfl rfl rfl rfl (Or.inr ⟨rfl, rfl, rfl⟩) (hX _ _ h)
set_option maxRecDepth 20000 in
theorem tm_X5_refuseNoStretch {a0 : Int} {M : am_M} {Q : am_M → Prop} {X : am_X} (h : wp_X5_refuseNoStretch a0 M Q X) : am_CC 6 51 [.inr (.inl (some 0)), .inl (a0)] M (am_QV Q) X := by
  refine ⟨Nat.le_of_ble_eq_true rfl, ?_⟩
  show am_W (am_CC 5) dt_X5_refuseNoStretch 5 0 none (am_QV Q) (am_qx 51 X) (0, 0, [(0, .inr (.inl (some 0))), (1, .inl (a0))], [], M)
  have hX : ∀ E M, X E M → am_qx 51 X E M := fun E M q => ⟨⟨rfl, by decide⟩, q⟩
  refine am_Wrun 1 (ps := []) (pc' := 1) (lv' := [(0, .inr (.inl (some 0))), (1, .inl (a0))]) (st' := [.inl (a0)]) (M' := M) rfl trivial ?_
  obtain ⟨b0, ht, hf⟩ := h
  refine am_Wbr (P := [am_rg a0]) (c := a0 < 0) (t := 15) (f := 4) (st' := []) rfl rfl ⟨b0, trivial⟩ rfl (fun q => ?_) (fun q => ?_)
  · have h := ht q
    refine am_W_sub [] rfl ?_
    exact tj_X5_refuseNoStretch_15 hX  M h
  · have h := hf q
    refine am_Wrun 3 (ps := []) (pc' := 9) (lv' := [(0, .inr (.inl (some 0))), (1, .inl (a0))]) (st' := [.inr (.inl (some 1)), .inl (a0)]) (M' := M) rfl trivial ?_
    refine am_WcallV (y := 36) (n := 1) (a := 1) (f := 12) (as := []) (st' := [.inl (a0)]) rfl rfl rfl rfl rfl rfl rfl rfl rfl rfl (Nat.zero_le _) rfl (am_CC_le (Nat.le_of_ble_eq_true rfl) (tm_X2_stretchCount h)) (fun r M2 q => ?_) (fun _ _ q => q.elim)
    obtain ⟨x1, rfl, h⟩ := q
    obtain ⟨b0, b1, ht, hf⟩ := h
    refine am_Wbr (P := [am_rg a0, am_rg x1]) (c := a0 < x1) (t := 26) (f := 15) (st' := []) rfl rfl ⟨b0, b1, trivial⟩ rfl (fun q => ?_) (fun q => ?_)
    · have h := ht q
      exact am_Wretv rfl rfl h
    · have h := hf q
      refine am_W_sub [] rfl ?_
      exact tj_X5_refuseNoStretch_15 hX  M2 h
abbrev dt_X2_sizeOf : am_D := (tk_X2_sizeOf, 2, 4, some .int, tb_hn 53)
def wl_X2_sizeOf_4 (Q : Int → am_M → Prop) : Nat → Int → Int → Int → am_M → Prop
  | 0, _, _, _, _ => False
  | n + 1, v1, v2, v3, M => (am_rg v3) ∧ (am_rg (M 1 7)) ∧ ((M 1 7) ≤ v3 → Q v2 M) ∧ (¬ (M 1 7) ≤ v3 → (0 ≤ (v3 : Int) ∧ (v3 : Int) < 60) ∧ ((am_rg (M 5 v3)) ∧ (am_rg v1) ∧ (¬ (M 5 v3) = v1 → wl_X2_sizeOf_4 Q n v1 v2 (v3 + 1) M) ∧ (¬ (¬ (M 5 v3) = v1) → wl_X2_sizeOf_4 Q n v1 (v2 + 1) (v3 + 1) M)))
def wp_X2_sizeOf (a0 : Int) (M : am_M) (Q : Int → am_M → Prop) : Prop := ∃ e4, wl_X2_sizeOf_4 Q e4 a0 0 0 M
set_option maxRecDepth 20000 in
theorem tw_X2_sizeOf_4 {Q : Int → am_M → Prop} {QX : am_X} : ∀ (n : Nat) (v1 : Int) (v2 : Int) (v3 : Int) (M : am_M), wl_X2_sizeOf_4 Q n v1 v2 v3 M → am_W (am_CC 0) dt_X2_sizeOf 0 0 none (am_QI Q) QX (0, 4, [(0, .inr (.inl (some 1))), (1, .inl (v1)), (2, .inl (v2)), (3, .inl (v3))], [], M)
  | 0, _, _, _, _, h => h.elim
  | n + 1, v1, v2, v3, M, h => by
    refine am_Wrun 3 (ps := []) (pc' := 9) (lv' := [(0, .inr (.inl (some 1))), (1, .inl (v1)), (2, .inl (v2)), (3, .inl (v3))]) (st' := [.inl (M 1 7), .inl (v3)]) (M' := M) rfl trivial ?_
    obtain ⟨b0, b1, ht, hf⟩ := h
    refine am_Wbr (P := [am_rg v3, am_rg (M 1 7)]) (c := (M 1 7) ≤ v3) (t := 31) (f := 12) (st' := []) rfl rfl ⟨b0, b1, trivial⟩ rfl (fun q => ?_) (fun q => ?_)
    · have h := ht q
      refine am_Wrun 1 (ps := []) (pc' := 32) (lv' := [(0, .inr (.inl (some 1))), (1, .inl (v1)), (2, .inl (v2)), (3, .inl (v3))]) (st' := [.inl (v2)]) (M' := M) rfl trivial ?_
      exact am_Wreti rfl rfl h
    · have h := hf q
      obtain ⟨c0_0, h⟩ := h
      refine am_Wrun 5 (ps := [0 ≤ (v3 : Int) ∧ (v3 : Int) < 60]) (pc' := 19) (lv' := [(0, .inr (.inl (some 1))), (1, .inl (v1)), (2, .inl (v2)), (3, .inl (v3))]) (st' := [.inl (v1), .inl (M 5 v3)]) (M' := M) rfl ⟨c0_0, trivial⟩ ?_
      obtain ⟨b0, b1, ht, hf⟩ := h
      refine am_Wbr (P := [am_rg (M 5 v3), am_rg v1]) (c := ¬ (M 5 v3) = v1) (t := 25) (f := 22) (st' := []) rfl rfl ⟨b0, b1, trivial⟩ rfl (fun q => ?_) (fun q => ?_)
      · have h := ht q
        refine am_Wrun 2 (ps := []) (pc' := 4) (lv' := [(3, .inl (v3 + 1)), (0, .inr (.inl (some 1))), (1, .inl (v1)), (2, .inl (v2))]) (st' := []) (M' := M) rfl trivial ?_
        refine am_W_sub [1, 2, 3, 0] rfl ?_
        exact tw_X2_sizeOf_4 n v1 v2 (v3 + 1) M h
      · have h := hf q
        refine am_Wrun 3 (ps := []) (pc' := 4) (lv' := [(3, .inl (v3 + 1)), (2, .inl (v2 + 1)), (0, .inr (.inl (some 1))), (1, .inl (v1))]) (st' := []) (M' := M) rfl trivial ?_
        refine am_W_sub [2, 3, 1, 0] rfl ?_
        exact tw_X2_sizeOf_4 n v1 (v2 + 1) (v3 + 1) M h
set_option maxRecDepth 20000 in
theorem tm_X2_sizeOf {a0 : Int} {M : am_M} {Q : Int → am_M → Prop} (h : wp_X2_sizeOf a0 M Q) : am_CC 1 53 [.inr (.inl (some 1)), .inl (a0)] M (am_QI Q) (fun _ _ => False) := by
  refine ⟨Nat.le_of_ble_eq_true rfl, ?_⟩
  show am_W (am_CC 0) dt_X2_sizeOf 0 0 none (am_QI Q) (am_qx 53 (fun _ _ => False)) (0, 0, [(0, .inr (.inl (some 1))), (1, .inl (a0))], [], M)
  refine am_Wrun 4 (ps := []) (pc' := 4) (lv' := [(3, .inl (0)), (2, .inl (0)), (0, .inr (.inl (some 1))), (1, .inl (a0))]) (st' := []) (M' := M) rfl trivial ?_
  refine am_W_sub [2, 3, 1, 0] rfl ?_
  obtain ⟨n4, h⟩ := h
  exact tw_X2_sizeOf_4 n4 a0 0 0 M h
abbrev dt_X2_firstOf : am_D := (tk_X2_firstOf, 2, 3, some .int, tb_hn 52)
def wl_X2_firstOf_2 (Q : Int → am_M → Prop) : Nat → Int → Int → am_M → Prop
  | 0, _, _, _ => False
  | n + 1, v1, v2, M => (am_rg v2) ∧ (am_rg (M 1 7)) ∧ ((M 1 7) ≤ v2 → Q (-1000000) M) ∧ (¬ (M 1 7) ≤ v2 → (0 ≤ (v2 : Int) ∧ (v2 : Int) < 60) ∧ ((am_rg (M 5 v2)) ∧ (am_rg v1) ∧ (¬ (M 5 v2) = v1 → wl_X2_firstOf_2 Q n v1 (v2 + 1) M) ∧ (¬ (¬ (M 5 v2) = v1) → Q v2 M)))
def wp_X2_firstOf (a0 : Int) (M : am_M) (Q : Int → am_M → Prop) : Prop := ∃ e2, wl_X2_firstOf_2 Q e2 a0 0 M
set_option maxRecDepth 20000 in
theorem tw_X2_firstOf_2 {Q : Int → am_M → Prop} {QX : am_X} : ∀ (n : Nat) (v1 : Int) (v2 : Int) (M : am_M), wl_X2_firstOf_2 Q n v1 v2 M → am_W (am_CC 0) dt_X2_firstOf 0 0 none (am_QI Q) QX (0, 2, [(0, .inr (.inl (some 1))), (1, .inl (v1)), (2, .inl (v2))], [], M)
  | 0, _, _, _, h => h.elim
  | n + 1, v1, v2, M, h => by
    refine am_Wrun 3 (ps := []) (pc' := 7) (lv' := [(0, .inr (.inl (some 1))), (1, .inl (v1)), (2, .inl (v2))]) (st' := [.inl (M 1 7), .inl (v2)]) (M' := M) rfl trivial ?_
    obtain ⟨b0, b1, ht, hf⟩ := h
    refine am_Wbr (P := [am_rg v2, am_rg (M 1 7)]) (c := (M 1 7) ≤ v2) (t := 28) (f := 10) (st' := []) rfl rfl ⟨b0, b1, trivial⟩ rfl (fun q => ?_) (fun q => ?_)
    · have h := ht q
      refine am_Wrun 1 (ps := []) (pc' := 30) (lv' := [(0, .inr (.inl (some 1))), (1, .inl (v1)), (2, .inl (v2))]) (st' := [.inl ((-1000000))]) (M' := M) rfl trivial ?_
      exact am_Wreti rfl rfl h
    · have h := hf q
      obtain ⟨c0_0, h⟩ := h
      refine am_Wrun 5 (ps := [0 ≤ (v2 : Int) ∧ (v2 : Int) < 60]) (pc' := 17) (lv' := [(0, .inr (.inl (some 1))), (1, .inl (v1)), (2, .inl (v2))]) (st' := [.inl (v1), .inl (M 5 v2)]) (M' := M) rfl ⟨c0_0, trivial⟩ ?_
      obtain ⟨b0, b1, ht, hf⟩ := h
      refine am_Wbr (P := [am_rg (M 5 v2), am_rg v1]) (c := ¬ (M 5 v2) = v1) (t := 22) (f := 20) (st' := []) rfl rfl ⟨b0, b1, trivial⟩ rfl (fun q => ?_) (fun q => ?_)
      · have h := ht q
        refine am_Wrun 2 (ps := []) (pc' := 2) (lv' := [(2, .inl (v2 + 1)), (0, .inr (.inl (some 1))), (1, .inl (v1))]) (st' := []) (M' := M) rfl trivial ?_
        refine am_W_sub [1, 2, 0] rfl ?_
        exact tw_X2_firstOf_2 n v1 (v2 + 1) M h
      · have h := hf q
        refine am_Wrun 1 (ps := []) (pc' := 21) (lv' := [(0, .inr (.inl (some 1))), (1, .inl (v1)), (2, .inl (v2))]) (st' := [.inl (v2)]) (M' := M) rfl trivial ?_
        exact am_Wreti rfl rfl h
set_option maxRecDepth 20000 in
theorem tm_X2_firstOf {a0 : Int} {M : am_M} {Q : Int → am_M → Prop} (h : wp_X2_firstOf a0 M Q) : am_CC 1 52 [.inr (.inl (some 1)), .inl (a0)] M (am_QI Q) (fun _ _ => False) := by
  refine ⟨Nat.le_of_ble_eq_true rfl, ?_⟩
  show am_W (am_CC 0) dt_X2_firstOf 0 0 none (am_QI Q) (am_qx 52 (fun _ _ => False)) (0, 0, [(0, .inr (.inl (some 1))), (1, .inl (a0))], [], M)
  refine am_Wrun 2 (ps := []) (pc' := 2) (lv' := [(2, .inl (0)), (0, .inr (.inl (some 1))), (1, .inl (a0))]) (st' := []) (M' := M) rfl trivial ?_
  refine am_W_sub [1, 2, 0] rfl ?_
  obtain ⟨n2, h⟩ := h
  exact tw_X2_firstOf_2 n2 a0 0 M h
abbrev dt_X2_removeRun : am_D := (tk_X2_removeRun, 2, 4, none, tb_hn 90)
def wl_X2_removeRun_23 (Q : am_M → Prop) : Nat → Int → Int → am_M → Prop
  | 0, _, _, _ => False
  | n + 1, v2, v3, M => (am_rg v3) ∧ (am_rg (M 1 7)) ∧ ((M 1 7) ≤ v3 → Q (am_up M 1 7 ((M 1 7) - v2))) ∧ (¬ (M 1 7) ≤ v3 → wp_X2_copyPoint v3 (v3 - v2) M (fun M1 => wl_X2_removeRun_23 Q n v2 (v3 + 1) M1))
def wp_X2_removeRun (a0 : Int) (a1 : Int) (M : am_M) (Q : am_M → Prop) : Prop := (am_rg a0) ∧ (a0 < 0 → Q M) ∧ (¬ a0 < 0 → (am_rg a1) ∧ (a1 < 0 → Q M) ∧ (¬ a1 < 0 → (am_rg (a0 + a1)) ∧ (am_rg (M 1 7)) ∧ ((a0 + a1) ≤ (M 1 7) → ∃ e23, wl_X2_removeRun_23 Q e23 a1 (a0 + a1) M) ∧ (¬ (a0 + a1) ≤ (M 1 7) → Q M)))
set_option maxRecDepth 20000 in
theorem tw_X2_removeRun_23 {Q : am_M → Prop} {QX : am_X} : ∀ (n : Nat) (v2 : Int) (v3 : Int) (M : am_M), wl_X2_removeRun_23 Q n v2 v3 M → am_W (am_CC 1) dt_X2_removeRun 1 0 none (am_QV Q) QX (0, 23, [(0, .inr (.inl (some 1))), (2, .inl (v2)), (3, .inl (v3))], [], M)
  | 0, _, _, _, h => h.elim
  | n + 1, v2, v3, M, h => by
    refine am_Wrun 3 (ps := []) (pc' := 28) (lv' := [(0, .inr (.inl (some 1))), (2, .inl (v2)), (3, .inl (v3))]) (st' := [.inl (M 1 7), .inl (v3)]) (M' := M) rfl trivial ?_
    obtain ⟨b0, b1, ht, hf⟩ := h
    refine am_Wbr (P := [am_rg v3, am_rg (M 1 7)]) (c := (M 1 7) ≤ v3) (t := 45) (f := 31) (st' := []) rfl rfl ⟨b0, b1, trivial⟩ rfl (fun q => ?_) (fun q => ?_)
    · have h := ht q
      refine am_Wrun 6 (ps := []) (pc' := 55) (lv' := [(0, .inr (.inl (some 1))), (2, .inl (v2)), (3, .inl (v3))]) (st' := []) (M' := (am_up M 1 7 ((M 1 7) - v2))) rfl trivial ?_
      exact am_Wretv rfl rfl h
    · have h := hf q
      refine am_Wrun 5 (ps := []) (pc' := 36) (lv' := [(0, .inr (.inl (some 1))), (2, .inl (v2)), (3, .inl (v3))]) (st' := [.inl (v3 - v2), .inl (v3), .inr (.inl (some 1))]) (M' := M) rfl trivial ?_
      refine am_WcallV (y := 81) (n := 3) (a := 1) (f := 39) (as := [.inl (v3), .inl (v3 - v2)]) (st' := []) rfl rfl rfl rfl rfl rfl rfl rfl rfl rfl (Nat.zero_le _) rfl (am_CC_le (Nat.le_of_ble_eq_true rfl) (tm_X2_copyPoint h)) (fun r M1 q => ?_) (fun _ _ q => q.elim)
      obtain ⟨rfl, h⟩ := q
      refine am_Wrun 2 (ps := []) (pc' := 23) (lv' := [(3, .inl (v3 + 1)), (0, .inr (.inl (some 1))), (2, .inl (v2))]) (st' := []) (M' := M1) rfl trivial ?_
      refine am_W_sub [1, 2, 0] rfl ?_
      exact tw_X2_removeRun_23 n v2 (v3 + 1) M1 h
set_option maxRecDepth 20000 in
theorem tm_X2_removeRun {a0 a1 : Int} {M : am_M} {Q : am_M → Prop} (h : wp_X2_removeRun a0 a1 M Q) : am_CC 2 90 [.inr (.inl (some 1)), .inl (a0), .inl (a1)] M (am_QV Q) (fun _ _ => False) := by
  refine ⟨Nat.le_of_ble_eq_true rfl, ?_⟩
  show am_W (am_CC 1) dt_X2_removeRun 1 0 none (am_QV Q) (am_qx 90 (fun _ _ => False)) (0, 0, [(0, .inr (.inl (some 1))), (1, .inl (a0)), (2, .inl (a1))], [], M)
  refine am_Wrun 1 (ps := []) (pc' := 1) (lv' := [(0, .inr (.inl (some 1))), (1, .inl (a0)), (2, .inl (a1))]) (st' := [.inl (a0)]) (M' := M) rfl trivial ?_
  obtain ⟨b0, ht, hf⟩ := h
  refine am_Wbr (P := [am_rg a0]) (c := a0 < 0) (t := 18) (f := 4) (st' := []) rfl rfl ⟨b0, trivial⟩ rfl (fun q => ?_) (fun q => ?_)
  · have h := ht q
    exact am_Wretv rfl rfl h
  · have h := hf q
    refine am_Wrun 1 (ps := []) (pc' := 5) (lv' := [(0, .inr (.inl (some 1))), (1, .inl (a0)), (2, .inl (a1))]) (st' := [.inl (a1)]) (M' := M) rfl trivial ?_
    obtain ⟨b0, ht, hf⟩ := h
    refine am_Wbr (P := [am_rg a1]) (c := a1 < 0) (t := 18) (f := 8) (st' := []) rfl rfl ⟨b0, trivial⟩ rfl (fun q => ?_) (fun q => ?_)
    · have h := ht q
      exact am_Wretv rfl rfl h
    · have h := hf q
      refine am_Wrun 5 (ps := []) (pc' := 15) (lv' := [(0, .inr (.inl (some 1))), (1, .inl (a0)), (2, .inl (a1))]) (st' := [.inl (M 1 7), .inl (a0 + a1)]) (M' := M) rfl trivial ?_
      obtain ⟨b0, b1, ht, hf⟩ := h
      refine am_Wbr (P := [am_rg (a0 + a1), am_rg (M 1 7)]) (c := (a0 + a1) ≤ (M 1 7)) (t := 19) (f := 18) (st' := []) rfl rfl ⟨b0, b1, trivial⟩ rfl (fun q => ?_) (fun q => ?_)
      · have h := ht q
        refine am_Wrun 4 (ps := []) (pc' := 23) (lv' := [(3, .inl (a0 + a1)), (0, .inr (.inl (some 1))), (1, .inl (a0)), (2, .inl (a1))]) (st' := []) (M' := M) rfl trivial ?_
        refine am_W_sub [1, 3, 0] rfl ?_
        obtain ⟨n23, h⟩ := h
        exact tw_X2_removeRun_23 n23 a1 (a0 + a1) M h
      · have h := hf q
        exact am_Wretv rfl rfl h
abbrev dt_X5_tear : am_D := (tk_X5_tear, 5, 3, some .int, tb_hn 89)
def wp_X5_tear (a0 : Int) (M : am_M) (Q : Int → am_M → Prop) (X : am_X) : Prop := wp_X5_refuseNoStretch a0 M (fun M1 => wp_X0_remember M1 (fun M2 => wp_X2_sizeOf a0 M2 (fun x3 M4 => wp_X2_firstOf a0 M4 (fun x5 M6 => wp_X2_removeRun x5 x3 M6 (fun M7 => wp_X5_pointsChanged (am_up M7 1 10 ((M7 1 10) + x3)) (fun M8 => Q x3 M8)))))) X
set_option maxRecDepth 20000 in
theorem tm_X5_tear {a0 : Int} {M : am_M} {Q : Int → am_M → Prop} {X : am_X} (h : wp_X5_tear a0 M Q X) : am_CC 7 89 [.inr (.inl (some 0)), .inl (a0)] M (am_QI Q) X := by
  refine ⟨Nat.le_of_ble_eq_true rfl, ?_⟩
  show am_W (am_CC 6) dt_X5_tear 6 0 none (am_QI Q) (am_qx 89 X) (0, 0, [(0, .inr (.inl (some 0))), (1, .inl (a0))], [], M)
  have hX : ∀ E M, X E M → am_qx 89 X E M := fun E M q => ⟨⟨rfl, by decide⟩, q⟩
  refine am_Wrun 2 (ps := []) (pc' := 2) (lv' := [(0, .inr (.inl (some 0))), (1, .inl (a0))]) (st' := [.inl (a0), .inr (.inl (some 0))]) (M' := M) rfl trivial ?_
  refine am_WcallV (y := 51) (n := 2) (a := 0) (f := 5) (as := [.inl (a0)]) (st' := []) rfl rfl rfl rfl rfl rfl rfl rfl rfl rfl (Nat.zero_le _) rfl (am_CC_le (Nat.le_of_ble_eq_true rfl) (tm_X5_refuseNoStretch h)) (fun r M1 q => ?_) (fun E M q => hX _ _ q)
  obtain ⟨rfl, h⟩ := q
  refine am_Wrun 4 (ps := []) (pc' := 13) (lv' := [(0, .inr (.inl (some 0))), (1, .inl (a0))]) (st' := [.inr (.inl (some 1)), .inr (.inl (some 14))]) (M' := M1) rfl trivial ?_
  refine am_WcallV (y := 1) (n := 2) (a := 14) (f := 16) (as := [.inr (.inl (some 1))]) (st' := []) rfl rfl rfl rfl rfl rfl rfl rfl rfl rfl (Nat.zero_le _) rfl (am_CC_le (Nat.le_of_ble_eq_true rfl) (tm_X0_remember h)) (fun r M2 q => ?_) (fun _ _ q => q.elim)
  obtain ⟨rfl, h⟩ := q
  refine am_Wrun 3 (ps := []) (pc' := 21) (lv' := [(0, .inr (.inl (some 0))), (1, .inl (a0))]) (st' := [.inl (a0), .inr (.inl (some 1))]) (M' := M2) rfl trivial ?_
  refine am_WcallV (y := 53) (n := 2) (a := 1) (f := 24) (as := [.inl (a0)]) (st' := []) rfl rfl rfl rfl rfl rfl rfl rfl rfl rfl (Nat.zero_le _) rfl (am_CC_le (Nat.le_of_ble_eq_true rfl) (tm_X2_sizeOf h)) (fun r M4 q => ?_) (fun _ _ q => q.elim)
  obtain ⟨x3, rfl, h⟩ := q
  refine am_Wrun 6 (ps := []) (pc' := 34) (lv' := [(2, .inl (x3)), (0, .inr (.inl (some 0))), (1, .inl (a0))]) (st' := [.inl (a0), .inr (.inl (some 1)), .inr (.inl (some 1))]) (M' := M4) rfl trivial ?_
  refine am_WcallV (y := 52) (n := 2) (a := 1) (f := 37) (as := [.inl (a0)]) (st' := [.inr (.inl (some 1))]) rfl rfl rfl rfl rfl rfl rfl rfl rfl rfl (Nat.zero_le _) rfl (am_CC_le (Nat.le_of_ble_eq_true rfl) (tm_X2_firstOf h)) (fun r M6 q => ?_) (fun _ _ q => q.elim)
  obtain ⟨x5, rfl, h⟩ := q
  refine am_Wrun 1 (ps := []) (pc' := 38) (lv' := [(2, .inl (x3)), (0, .inr (.inl (some 0))), (1, .inl (a0))]) (st' := [.inl (x3), .inl (x5), .inr (.inl (some 1))]) (M' := M6) rfl trivial ?_
  refine am_WcallV (y := 90) (n := 3) (a := 1) (f := 41) (as := [.inl (x5), .inl (x3)]) (st' := []) rfl rfl rfl rfl rfl rfl rfl rfl rfl rfl (Nat.zero_le _) rfl (am_CC_le (Nat.le_of_ble_eq_true rfl) (tm_X2_removeRun h)) (fun r M7 q => ?_) (fun _ _ q => q.elim)
  obtain ⟨rfl, h⟩ := q
  refine am_Wrun 8 (ps := []) (pc' := 55) (lv' := [(2, .inl (x3)), (0, .inr (.inl (some 0))), (1, .inl (a0))]) (st' := [.inr (.inl (some 0))]) (M' := (am_up M7 1 10 ((M7 1 10) + x3))) rfl trivial ?_
  refine am_WcallV (y := 82) (n := 1) (a := 0) (f := 58) (as := []) (st' := []) rfl rfl rfl rfl rfl rfl rfl rfl rfl rfl (Nat.zero_le _) rfl (am_CC_le (Nat.le_of_ble_eq_true rfl) (tm_X5_pointsChanged h)) (fun r M8 q => ?_) (fun _ _ q => q.elim)
  obtain ⟨rfl, h⟩ := q
  refine am_Wrun 1 (ps := []) (pc' := 59) (lv' := [(2, .inl (x3)), (0, .inr (.inl (some 0))), (1, .inl (a0))]) (st' := [.inl (x3)]) (M' := M8) rfl trivial ?_
  exact am_Wreti rfl rfl h
abbrev dt_L_tear : am_D := (tk_L_tear, 9, 4, some .int, tb_hn 204)
def wp_L_tear (a1 : Int) (M : am_M) (Q : Int → am_M → Prop) : Prop := wp_X5_tear a1 M (fun x1 M2 => (am_rg x1) ∧ (Q 0 (am_up M2 80 0 x1))) (fun E M3 => (E = 2 ∧ Q 1 M3))
set_option maxRecDepth 20000 in
theorem tm_L_tear {a1 : Int} {M : am_M} {Q : Int → am_M → Prop} (h : wp_L_tear a1 M Q) : am_CC 8 204 [.inr (.inl (some 0)), .inl (a1), .inr (.inl (some 80))] M (am_QI Q) (fun _ _ => False) := by
  refine ⟨Nat.le_of_ble_eq_true rfl, ?_⟩
  show am_W (am_CC 7) dt_L_tear 7 1 none (am_QI Q) (am_qx 204 (fun _ _ => False)) (0, 0, [(0, .inr (.inl (some 0))), (1, .inl (a1)), (2, .inr (.inl (some 80)))], [], M)
  refine am_Wrun 4 (ps := []) (pc' := 4) (lv' := [(0, .inr (.inl (some 0))), (1, .inl (a1)), (2, .inr (.inl (some 80)))]) (st' := [.inl (a1), .inr (.inl (some 0)), .inl (0), .inr (.inl (some 80))]) (M' := M) rfl trivial ?_
  refine am_WcallV (y := 89) (n := 2) (a := 0) (f := 7) (as := [.inl (a1)]) (st' := [.inl (0), .inr (.inl (some 80))]) rfl rfl rfl rfl rfl rfl rfl rfl rfl rfl (Nat.zero_le _) rfl (am_CC_le (Nat.le_of_ble_eq_true rfl) (tm_X5_tear h)) (fun r M2 q => ?_) (fun E M3 q => ?_)
  · obtain ⟨x1, rfl, h⟩ := q
    obtain ⟨c0_0, h⟩ := h
    refine am_Wrun 4 (ps := [am_rg x1, 0 ≤ (0 : Int) ∧ (0 : Int) < 1]) (pc' := 16) (lv' := [(0, .inr (.inl (some 0))), (1, .inl (a1)), (2, .inr (.inl (some 80)))]) (st' := [.inl (0)]) (M' := (am_up M2 80 0 x1)) rfl ⟨c0_0, ⟨by decide, by decide⟩, trivial⟩ ?_
    exact am_Wreti rfl rfl h
  · rcases q with ⟨rfl, h⟩
    · show 0 + 1 ≤ 1 ∧ am_W (am_CC 7) dt_L_tear 7 1 none (am_QI Q) _ (0 + 1, 13, [(0, .inr (.inl (some 0))), (1, .inl (a1)), (2, .inr (.inl (some 80)))], [], M3)
      refine ⟨Nat.le_refl _, ?_⟩
      refine am_Wrun 1 (ps := []) (pc' := 14) (lv' := [(0, .inr (.inl (some 0))), (1, .inl (a1)), (2, .inr (.inl (some 80)))]) (st' := [.inl (1)]) (M' := M3) rfl trivial ?_
      exact am_Wreti rfl rfl h
abbrev dt_X6_stretches : am_D := (tk_X6_stretches, 6, 1, some .int, tb_hn 151)
def wp_X6_stretches (M : am_M) (Q : Int → am_M → Prop) : Prop := (am_rg (M 70 0)) ∧ (¬ (M 70 0) = 0 → wp_X6_stretchOf ((M 70 0) - 1) M (fun x1 M2 => Q (x1 + 1) M2)) ∧ (¬ (¬ (M 70 0) = 0) → Q 0 M)
set_option maxRecDepth 20000 in
theorem tm_X6_stretches {M : am_M} {Q : Int → am_M → Prop} (h : wp_X6_stretches M Q) : am_CC 4 151 [.inr (.inl (some 69))] M (am_QI Q) (fun _ _ => False) := by
  refine ⟨Nat.le_of_ble_eq_true rfl, ?_⟩
  show am_W (am_CC 3) dt_X6_stretches 3 0 none (am_QI Q) (am_qx 151 (fun _ _ => False)) (0, 0, [(0, .inr (.inl (some 69)))], [], M)
  refine am_Wrun 4 (ps := [0 ≤ (0 : Int) ∧ (0 : Int) < 203]) (pc' := 6) (lv' := [(0, .inr (.inl (some 69)))]) (st' := [.inl (M 70 0)]) (M' := M) rfl ⟨⟨by decide, by decide⟩, trivial⟩ ?_
  obtain ⟨b0, ht, hf⟩ := h
  refine am_Wbr (P := [am_rg (M 70 0)]) (c := ¬ (M 70 0) = 0) (t := 13) (f := 9) (st' := []) rfl rfl ⟨b0, trivial⟩ rfl (fun q => ?_) (fun q => ?_)
  · have h := ht q
    refine am_Wrun 7 (ps := [0 ≤ (0 : Int) ∧ (0 : Int) < 203]) (pc' := 22) (lv' := [(0, .inr (.inl (some 69)))]) (st' := [.inl ((M 70 0) - 1), .inr (.inl (some 69))]) (M' := M) rfl ⟨⟨by decide, by decide⟩, trivial⟩ ?_
    refine am_WcallV (y := 126) (n := 2) (a := 69) (f := 25) (as := [.inl ((M 70 0) - 1)]) (st' := []) rfl rfl rfl rfl rfl rfl rfl rfl rfl rfl (Nat.zero_le _) rfl (am_CC_le (Nat.le_of_ble_eq_true rfl) (tm_X6_stretchOf h)) (fun r M2 q => ?_) (fun _ _ q => q.elim)
    obtain ⟨x1, rfl, h⟩ := q
    refine am_Wrun 2 (ps := []) (pc' := 27) (lv' := [(0, .inr (.inl (some 69)))]) (st' := [.inl (x1 + 1)]) (M' := M2) rfl trivial ?_
    exact am_Wreti rfl rfl h
  · have h := hf q
    refine am_Wrun 2 (ps := []) (pc' := 27) (lv' := [(0, .inr (.inl (some 69)))]) (st' := [.inl (0)]) (M' := M) rfl trivial ?_
    exact am_Wreti rfl rfl h
abbrev dt_X6_firstOf : am_D := (tk_X6_firstOf, 6, 4, some .int, tb_hn 152)
def wl_X6_firstOf_4 (Q : Int → am_M → Prop) : Nat → Int → Int → Int → am_M → Prop
  | 0, _, _, _, _ => False
  | n + 1, v1, v2, v3, M => (am_rg v3) ∧ (am_rg v1) ∧ (v1 ≤ v3 → Q v2 M) ∧ (¬ v1 ≤ v3 → wp_X6_isFirst (v2 + 1) M (fun x1 M2 => (am_rg x1) ∧ (x1 = 0 → wl_X6_firstOf_4 Q n v1 (v2 + 1) (v3 + 0) M2) ∧ (¬ x1 = 0 → wl_X6_firstOf_4 Q n v1 (v2 + 1) (v3 + 1) M2)))
def wp_X6_firstOf (a0 : Int) (M : am_M) (Q : Int → am_M → Prop) : Prop := ∃ e4, wl_X6_firstOf_4 Q e4 a0 0 0 M
set_option maxRecDepth 20000 in
theorem tw_X6_firstOf_4 {Q : Int → am_M → Prop} {QX : am_X} : ∀ (n : Nat) (v1 : Int) (v2 : Int) (v3 : Int) (M : am_M), wl_X6_firstOf_4 Q n v1 v2 v3 M → am_W (am_CC 2) dt_X6_firstOf 2 0 none (am_QI Q) QX (0, 4, [(0, .inr (.inl (some 69))), (1, .inl (v1)), (2, .inl (v2)), (3, .inl (v3))], [], M)
  | 0, _, _, _, _, h => h.elim
  | n + 1, v1, v2, v3, M, h => by
    refine am_Wrun 2 (ps := []) (pc' := 6) (lv' := [(0, .inr (.inl (some 69))), (1, .inl (v1)), (2, .inl (v2)), (3, .inl (v3))]) (st' := [.inl (v1), .inl (v3)]) (M' := M) rfl trivial ?_
    obtain ⟨b0, b1, ht, hf⟩ := h
    refine am_Wbr (P := [am_rg v3, am_rg v1]) (c := v1 ≤ v3) (t := 31) (f := 9) (st' := []) rfl rfl ⟨b0, b1, trivial⟩ rfl (fun q => ?_) (fun q => ?_)
    · have h := ht q
      refine am_Wrun 1 (ps := []) (pc' := 32) (lv' := [(0, .inr (.inl (some 69))), (1, .inl (v1)), (2, .inl (v2)), (3, .inl (v3))]) (st' := [.inl (v2)]) (M' := M) rfl trivial ?_
      exact am_Wreti rfl rfl h
    · have h := hf q
      refine am_Wrun 4 (ps := []) (pc' := 15) (lv' := [(2, .inl (v2 + 1)), (0, .inr (.inl (some 69))), (1, .inl (v1)), (3, .inl (v3))]) (st' := [.inl (v2 + 1), .inr (.inl (some 69)), .inl (v3)]) (M' := M) rfl trivial ?_
      refine am_WcallV (y := 127) (n := 2) (a := 69) (f := 18) (as := [.inl (v2 + 1)]) (st' := [.inl (v3)]) rfl rfl rfl rfl rfl rfl rfl rfl rfl rfl (Nat.zero_le _) rfl (am_CC_le (Nat.le_of_ble_eq_true rfl) (tm_X6_isFirst h)) (fun r M2 q => ?_) (fun _ _ q => q.elim)
      obtain ⟨x1, rfl, h⟩ := q
      obtain ⟨b0, ht, hf⟩ := h
      refine am_Wbr (P := [am_rg x1]) (c := x1 = 0) (t := 25) (f := 21) (st' := [.inl (v3)]) rfl rfl ⟨b0, trivial⟩ rfl (fun q => ?_) (fun q => ?_)
      · have h := ht q
        refine am_Wrun 4 (ps := []) (pc' := 4) (lv' := [(3, .inl (v3 + 0)), (2, .inl (v2 + 1)), (0, .inr (.inl (some 69))), (1, .inl (v1))]) (st' := []) (M' := M2) rfl trivial ?_
        refine am_W_sub [2, 3, 1, 0] rfl ?_
        exact tw_X6_firstOf_4 n v1 (v2 + 1) (v3 + 0) M2 h
      · have h := hf q
        refine am_Wrun 5 (ps := []) (pc' := 4) (lv' := [(3, .inl (v3 + 1)), (2, .inl (v2 + 1)), (0, .inr (.inl (some 69))), (1, .inl (v1))]) (st' := []) (M' := M2) rfl trivial ?_
        refine am_W_sub [2, 3, 1, 0] rfl ?_
        exact tw_X6_firstOf_4 n v1 (v2 + 1) (v3 + 1) M2 h
set_option maxRecDepth 20000 in
theorem tm_X6_firstOf {a0 : Int} {M : am_M} {Q : Int → am_M → Prop} (h : wp_X6_firstOf a0 M Q) : am_CC 3 152 [.inr (.inl (some 69)), .inl (a0)] M (am_QI Q) (fun _ _ => False) := by
  refine ⟨Nat.le_of_ble_eq_true rfl, ?_⟩
  show am_W (am_CC 2) dt_X6_firstOf 2 0 none (am_QI Q) (am_qx 152 (fun _ _ => False)) (0, 0, [(0, .inr (.inl (some 69))), (1, .inl (a0))], [], M)
  refine am_Wrun 4 (ps := []) (pc' := 4) (lv' := [(3, .inl (0)), (2, .inl (0)), (0, .inr (.inl (some 69))), (1, .inl (a0))]) (st' := []) (M' := M) rfl trivial ?_
  refine am_W_sub [2, 3, 1, 0] rfl ?_
  obtain ⟨n4, h⟩ := h
  exact tw_X6_firstOf_4 n4 a0 0 0 M h
abbrev dt_X6_tear : am_D := (tk_X6_tear, 6, 5, some .int, tb_hn 150)
def wl_X6_tear_48 (Q : Int → am_M → Prop) : Nat → Int → Int → am_M → Prop
  | 0, _, _, _ => False
  | n + 1, v3, v4, M => (am_rg (v4 + v3)) ∧ (am_rg (M 70 0)) ∧ ((M 70 0) ≤ (v4 + v3) → Q v3 (am_up (am_up M 70 0 ((M 70 0) - v3)) 70 3 (((am_up M 70 0 ((M 70 0) - v3)) 70 3) + v3))) ∧ (¬ (M 70 0) ≤ (v4 + v3) → (0 ≤ ((7 + v4) + v3 : Int) ∧ ((7 + v4) + v3 : Int) < 203) ∧ (0 ≤ (7 + v4 : Int) ∧ (7 + v4 : Int) < 203) ∧ (0 ≤ ((67 + v4) + v3 : Int) ∧ ((67 + v4) + v3 : Int) < 203) ∧ (0 ≤ (67 + v4 : Int) ∧ (67 + v4 : Int) < 203) ∧ (0 ≤ ((127 + v4) + v3 : Int) ∧ ((127 + v4) + v3 : Int) < 203) ∧ (0 ≤ (127 + v4 : Int) ∧ (127 + v4 : Int) < 203) ∧ (wl_X6_tear_48 Q n v3 (v4 + 1) (am_up (am_up (am_up M 70 (7 + v4) (M 70 ((7 + v4) + v3))) 70 (67 + v4) ((am_up M 70 (7 + v4) (M 70 ((7 + v4) + v3))) 70 ((67 + v4) + v3))) 70 (127 + v4) ((am_up (am_up M 70 (7 + v4) (M 70 ((7 + v4) + v3))) 70 (67 + v4) ((am_up M 70 (7 + v4) (M 70 ((7 + v4) + v3))) 70 ((67 + v4) + v3))) 70 ((127 + v4) + v3)))))
def wp_X6_tear (a0 : Int) (M : am_M) (Q : Int → am_M → Prop) : Prop := wp_X6_stretches (am_up M 69 5 0) (fun x1 M2 => wp_X6_in a0 0 (x1 - 1) M2 (fun x3 M4 => (am_rg x3) ∧ (¬ x3 = 0 → wp_X6_save M4 (fun M5 => wp_X6_firstOf a0 M5 (fun x6 M7 => wp_X6_lastWith x6 M7 (fun x8 M9 => ∃ e48, wl_X6_tear_48 Q e48 ((x8 + 1) - x6) x6 M9)))) ∧ (¬ (¬ x3 = 0) → wp_X6_fails 1 M4 (fun x10 M11 => Q x10 M11))))
set_option maxRecDepth 20000 in
theorem tw_X6_tear_48 {Q : Int → am_M → Prop} {QX : am_X} : ∀ (n : Nat) (v3 : Int) (v4 : Int) (M : am_M), wl_X6_tear_48 Q n v3 v4 M → am_W (am_CC 4) dt_X6_tear 4 0 none (am_QI Q) QX (0, 48, [(0, .inr (.inl (some 69))), (3, .inl (v3)), (4, .inl (v4))], [], M)
  | 0, _, _, _, h => h.elim
  | n + 1, v3, v4, M, h => by
    refine am_Wrun 7 (ps := [0 ≤ (0 : Int) ∧ (0 : Int) < 203]) (pc' := 58) (lv' := [(0, .inr (.inl (some 69))), (3, .inl (v3)), (4, .inl (v4))]) (st' := [.inl (M 70 0), .inl (v4 + v3)]) (M' := M) rfl ⟨⟨by decide, by decide⟩, trivial⟩ ?_
    obtain ⟨b0, b1, ht, hf⟩ := h
    refine am_Wbr (P := [am_rg (v4 + v3), am_rg (M 70 0)]) (c := (M 70 0) ≤ (v4 + v3)) (t := 133) (f := 61) (st' := []) rfl rfl ⟨b0, b1, trivial⟩ rfl (fun q => ?_) (fun q => ?_)
    · have h := ht q
      refine am_Wrun 17 (ps := [0 ≤ (0 : Int) ∧ (0 : Int) < 203, 0 ≤ (0 : Int) ∧ (0 : Int) < 203, 0 ≤ (3 : Int) ∧ (3 : Int) < 203, 0 ≤ (3 : Int) ∧ (3 : Int) < 203]) (pc' := 154) (lv' := [(0, .inr (.inl (some 69))), (3, .inl (v3)), (4, .inl (v4))]) (st' := [.inl (v3)]) (M' := (am_up (am_up M 70 0 ((M 70 0) - v3)) 70 3 (((am_up M 70 0 ((M 70 0) - v3)) 70 3) + v3))) rfl ⟨⟨by decide, by decide⟩, ⟨by decide, by decide⟩, ⟨by decide, by decide⟩, ⟨by decide, by decide⟩, trivial⟩ ?_
      exact am_Wreti rfl rfl h
    · have h := hf q
      obtain ⟨c2_0, c3_0, c6_0, c7_0, c10_0, c11_0, h⟩ := h
      refine am_Wrun 44 (ps := [-128 ≤ (7 : Int) ∧ (7 : Int) ≤ 127, -128 ≤ (7 : Int) ∧ (7 : Int) ≤ 127, 0 ≤ ((7 + v4) + v3 : Int) ∧ ((7 + v4) + v3 : Int) < 203, 0 ≤ (7 + v4 : Int) ∧ (7 + v4 : Int) < 203, -128 ≤ (67 : Int) ∧ (67 : Int) ≤ 127, -128 ≤ (67 : Int) ∧ (67 : Int) ≤ 127, 0 ≤ ((67 + v4) + v3 : Int) ∧ ((67 + v4) + v3 : Int) < 203, 0 ≤ (67 + v4 : Int) ∧ (67 + v4 : Int) < 203, -128 ≤ (127 : Int) ∧ (127 : Int) ≤ 127, -128 ≤ (127 : Int) ∧ (127 : Int) ≤ 127, 0 ≤ ((127 + v4) + v3 : Int) ∧ ((127 + v4) + v3 : Int) < 203, 0 ≤ (127 + v4 : Int) ∧ (127 + v4 : Int) < 203]) (pc' := 48) (lv' := [(4, .inl (v4 + 1)), (0, .inr (.inl (some 69))), (3, .inl (v3))]) (st' := []) (M' := (am_up (am_up (am_up M 70 (7 + v4) (M 70 ((7 + v4) + v3))) 70 (67 + v4) ((am_up M 70 (7 + v4) (M 70 ((7 + v4) + v3))) 70 ((67 + v4) + v3))) 70 (127 + v4) ((am_up (am_up M 70 (7 + v4) (M 70 ((7 + v4) + v3))) 70 (67 + v4) ((am_up M 70 (7 + v4) (M 70 ((7 + v4) + v3))) 70 ((67 + v4) + v3))) 70 ((127 + v4) + v3)))) rfl ⟨⟨by decide, by decide⟩, ⟨by decide, by decide⟩, c2_0, c3_0, ⟨by decide, by decide⟩, ⟨by decide, by decide⟩, c6_0, c7_0, ⟨by decide, by decide⟩, ⟨by decide, by decide⟩, c10_0, c11_0, trivial⟩ ?_
      refine am_W_sub [1, 2, 0] rfl ?_
      exact tw_X6_tear_48 n v3 (v4 + 1) (am_up (am_up (am_up M 70 (7 + v4) (M 70 ((7 + v4) + v3))) 70 (67 + v4) ((am_up M 70 (7 + v4) (M 70 ((7 + v4) + v3))) 70 ((67 + v4) + v3))) 70 (127 + v4) ((am_up (am_up M 70 (7 + v4) (M 70 ((7 + v4) + v3))) 70 (67 + v4) ((am_up M 70 (7 + v4) (M 70 ((7 + v4) + v3))) 70 ((67 + v4) + v3))) 70 ((127 + v4) + v3))) h
set_option maxRecDepth 20000 in
theorem tm_X6_tear {a0 : Int} {M : am_M} {Q : Int → am_M → Prop} (h : wp_X6_tear a0 M Q) : am_CC 5 150 [.inr (.inl (some 69)), .inl (a0)] M (am_QI Q) (fun _ _ => False) := by
  refine ⟨Nat.le_of_ble_eq_true rfl, ?_⟩
  show am_W (am_CC 4) dt_X6_tear 4 0 none (am_QI Q) (am_qx 150 (fun _ _ => False)) (0, 0, [(0, .inr (.inl (some 69))), (1, .inl (a0))], [], M)
  refine am_Wrun 6 (ps := []) (pc' := 8) (lv' := [(0, .inr (.inl (some 69))), (1, .inl (a0))]) (st' := [.inr (.inl (some 69)), .inl (0), .inl (a0)]) (M' := (am_up M 69 5 0)) rfl trivial ?_
  refine am_WcallV (y := 151) (n := 1) (a := 69) (f := 11) (as := []) (st' := [.inl (0), .inl (a0)]) rfl rfl rfl rfl rfl rfl rfl rfl rfl rfl (Nat.zero_le _) rfl (am_CC_le (Nat.le_of_ble_eq_true rfl) (tm_X6_stretches h)) (fun r M2 q => ?_) (fun _ _ q => q.elim)
  obtain ⟨x1, rfl, h⟩ := q
  refine am_Wrun 2 (ps := []) (pc' := 13) (lv' := [(0, .inr (.inl (some 69))), (1, .inl (a0))]) (st' := [.inl (x1 - 1), .inl (0), .inl (a0)]) (M' := M2) rfl trivial ?_
  refine am_WcallS (y := 112) (n := 3) (f := 16) (co := 0) (as := [.inl (a0), .inl (0), .inl (x1 - 1)]) (st' := []) rfl rfl rfl rfl rfl rfl rfl rfl rfl (Nat.zero_le _) rfl (am_CC_le (Nat.le_of_ble_eq_true rfl) (tm_X6_in h)) (fun r M4 q => ?_) (fun _ _ q => q.elim)
  obtain ⟨x3, rfl, h⟩ := q
  obtain ⟨b0, ht, hf⟩ := h
  refine am_Wbr (P := [am_rg x3]) (c := ¬ x3 = 0) (t := 25) (f := 19) (st' := []) rfl rfl ⟨b0, trivial⟩ rfl (fun q => ?_) (fun q => ?_)
  · have h := ht q
    refine am_Wrun 1 (ps := []) (pc' := 26) (lv' := [(0, .inr (.inl (some 69))), (1, .inl (a0))]) (st' := [.inr (.inl (some 69))]) (M' := M4) rfl trivial ?_
    refine am_WcallV (y := 116) (n := 1) (a := 69) (f := 29) (as := []) (st' := []) rfl rfl rfl rfl rfl rfl rfl rfl rfl rfl (Nat.zero_le _) rfl (am_CC_le (Nat.le_of_ble_eq_true rfl) (tm_X6_save h)) (fun r M5 q => ?_) (fun _ _ q => q.elim)
    obtain ⟨rfl, h⟩ := q
    refine am_Wrun 2 (ps := []) (pc' := 31) (lv' := [(0, .inr (.inl (some 69))), (1, .inl (a0))]) (st' := [.inl (a0), .inr (.inl (some 69))]) (M' := M5) rfl trivial ?_
    refine am_WcallV (y := 152) (n := 2) (a := 69) (f := 34) (as := [.inl (a0)]) (st' := []) rfl rfl rfl rfl rfl rfl rfl rfl rfl rfl (Nat.zero_le _) rfl (am_CC_le (Nat.le_of_ble_eq_true rfl) (tm_X6_firstOf h)) (fun r M7 q => ?_) (fun _ _ q => q.elim)
    obtain ⟨x6, rfl, h⟩ := q
    refine am_Wrun 3 (ps := []) (pc' := 37) (lv' := [(2, .inl (x6)), (0, .inr (.inl (some 69))), (1, .inl (a0))]) (st' := [.inl (x6), .inr (.inl (some 69))]) (M' := M7) rfl trivial ?_
    refine am_WcallV (y := 145) (n := 2) (a := 69) (f := 40) (as := [.inl (x6)]) (st' := []) rfl rfl rfl rfl rfl rfl rfl rfl rfl rfl (Nat.zero_le _) rfl (am_CC_le (Nat.le_of_ble_eq_true rfl) (tm_X6_lastWith h)) (fun r M9 q => ?_) (fun _ _ q => q.elim)
    obtain ⟨x8, rfl, h⟩ := q
    refine am_Wrun 7 (ps := []) (pc' := 48) (lv' := [(4, .inl (x6)), (3, .inl ((x8 + 1) - x6)), (2, .inl (x6)), (0, .inr (.inl (some 69))), (1, .inl (a0))]) (st' := []) (M' := M9) rfl trivial ?_
    refine am_W_sub [3, 1, 0] rfl ?_
    obtain ⟨n48, h⟩ := h
    exact tw_X6_tear_48 n48 ((x8 + 1) - x6) x6 M9 h
  · have h := hf q
    refine am_Wrun 2 (ps := []) (pc' := 21) (lv' := [(0, .inr (.inl (some 69))), (1, .inl (a0))]) (st' := [.inl (1), .inr (.inl (some 69))]) (M' := M4) rfl trivial ?_
    refine am_WcallV (y := 113) (n := 2) (a := 69) (f := 24) (as := [.inl (1)]) (st' := []) rfl rfl rfl rfl rfl rfl rfl rfl rfl rfl (Nat.zero_le _) rfl (am_CC_le (Nat.le_of_ble_eq_true rfl) (tm_X6_fails h)) (fun r M11 q => ?_) (fun _ _ q => q.elim)
    obtain ⟨x10, rfl, h⟩ := q
    exact am_Wreti rfl rfl h
abbrev dt_X5_refuseNoSetting : am_D := (tk_X5_refuseNoSetting, 5, 1, none, tb_hn 92)
def wj_X5_refuseNoSetting_9 (Q : am_M → Prop) (X : am_X) (M : am_M) : Prop := X 2 M
def wp_X5_refuseNoSetting (a0 : Int) (M : am_M) (Q : am_M → Prop) (X : am_X) : Prop := (am_rg a0) ∧ (a0 < 0 → wj_X5_refuseNoSetting_9 Q X  M) ∧ (¬ a0 < 0 → (am_rg a0) ∧ (a0 < 3 → Q M) ∧ (¬ a0 < 3 → wj_X5_refuseNoSetting_9 Q X  M))
set_option maxRecDepth 20000 in
theorem tj_X5_refuseNoSetting_9 {Q : am_M → Prop} {X : am_X} {QX : am_X} (hX : ∀ E M, X E M → QX E M) (M : am_M) (h : wj_X5_refuseNoSetting_9 Q X M) : am_W (am_CC 5) dt_X5_refuseNoSetting 5 0 none (am_QV Q) QX (0, 9, [], [], M) := by
  exact am_Wthr (is := 337) (ic := 256) (E := 2) rfl (Nat.le_of_ble_eq_true rfl) rfl rfl rfl rfl (Or.inr ⟨rfl, rfl, rfl⟩) (hX _ _ h)
set_option maxRecDepth 20000 in
theorem tm_X5_refuseNoSetting {a0 : Int} {M : am_M} {Q : am_M → Prop} {X : am_X} (h : wp_X5_refuseNoSetting a0 M Q X) : am_CC 6 92 [.inl (a0)] M (am_QV Q) X := by
  refine ⟨Nat.le_of_ble_eq_true rfl, ?_⟩
  show am_W (am_CC 5) dt_X5_refuseNoSetting 5 0 none (am_QV Q) (am_qx 92 X) (0, 0, [(0, .inl (a0))], [], M)
  have hX : ∀ E M, X E M → am_qx 92 X E M := fun E M q => ⟨⟨rfl, by decide⟩, q⟩
  refine am_Wrun 1 (ps := []) (pc' := 1) (lv' := [(0, .inl (a0))]) (st' := [.inl (a0)]) (M' := M) rfl trivial ?_
  obtain ⟨b0, ht, hf⟩ := h
  refine am_Wbr (P := [am_rg a0]) (c := a0 < 0) (t := 9) (f := 4) (st' := []) rfl rfl ⟨b0, trivial⟩ rfl (fun q => ?_) (fun q => ?_)
  · have h := ht q
    refine am_W_sub [] rfl ?_
    exact tj_X5_refuseNoSetting_9 hX  M h
  · have h := hf q
    refine am_Wrun 2 (ps := []) (pc' := 6) (lv' := [(0, .inl (a0))]) (st' := [.inl (3), .inl (a0)]) (M' := M) rfl trivial ?_
    obtain ⟨b0, ht, hf⟩ := h
    refine am_Wbr (P := [am_rg a0, am_rg 3]) (c := a0 < 3) (t := 20) (f := 9) (st' := []) rfl rfl ⟨b0, (am_rgd rfl), trivial⟩ rfl (fun q => ?_) (fun q => ?_)
    · have h := ht q
      exact am_Wretv rfl rfl h
    · have h := hf q
      refine am_W_sub [] rfl ?_
      exact tj_X5_refuseNoSetting_9 hX  M h
abbrev dt_X5_isSettingValue : am_D := (tk_X5_isSettingValue, 5, 2, some .boolean, tb_hn 93)
def wp_X5_isSettingValue (a0 : Int) (a1 : Int) (M : am_M) (Q : Int → am_M → Prop) : Prop := (am_rg a0) ∧ (¬ a0 = 0 → (am_rg a0) ∧ (¬ a0 = 1 → (am_rg a1) ∧ (a1 = 0 → Q 1 M) ∧ (¬ a1 = 0 → (am_rg a1) ∧ (¬ a1 = 1 → Q 0 M) ∧ (¬ (¬ a1 = 1) → Q 1 M))) ∧ (¬ (¬ a0 = 1) → (am_rg a1) ∧ (a1 < 1 → Q 0 M) ∧ (¬ a1 < 1 → (am_rg a1) ∧ (2000 < a1 → Q 0 M) ∧ (¬ 2000 < a1 → Q 1 M)))) ∧ (¬ (¬ a0 = 0) → (am_rg a1) ∧ (a1 < 0 → Q 0 M) ∧ (¬ a1 < 0 → (am_rg a1) ∧ (500 < a1 → Q 0 M) ∧ (¬ 500 < a1 → Q 1 M)))
set_option maxRecDepth 20000 in
theorem tm_X5_isSettingValue {a0 a1 : Int} {M : am_M} {Q : Int → am_M → Prop} (h : wp_X5_isSettingValue a0 a1 M Q) : am_CC 1 93 [.inl (a0), .inl (a1)] M (am_QI Q) (fun _ _ => False) := by
  refine ⟨Nat.le_of_ble_eq_true rfl, ?_⟩
  show am_W (am_CC 0) dt_X5_isSettingValue 0 0 none (am_QI Q) (am_qx 93 (fun _ _ => False)) (0, 0, [(0, .inl (a0)), (1, .inl (a1))], [], M)
  refine am_Wrun 1 (ps := []) (pc' := 1) (lv' := [(0, .inl (a0)), (1, .inl (a1))]) (st' := [.inl (a0)]) (M' := M) rfl trivial ?_
  obtain ⟨b0, ht, hf⟩ := h
  refine am_Wbr (P := [am_rg a0]) (c := ¬ a0 = 0) (t := 21) (f := 4) (st' := []) rfl rfl ⟨b0, trivial⟩ rfl (fun q => ?_) (fun q => ?_)
  · have h := ht q
    refine am_Wrun 2 (ps := []) (pc' := 23) (lv' := [(0, .inl (a0)), (1, .inl (a1))]) (st' := [.inl (1), .inl (a0)]) (M' := M) rfl trivial ?_
    obtain ⟨b0, ht, hf⟩ := h
    refine am_Wbr (P := [am_rg a0, am_rg 1]) (c := ¬ a0 = 1) (t := 44) (f := 26) (st' := []) rfl rfl ⟨b0, (am_rgd rfl), trivial⟩ rfl (fun q => ?_) (fun q => ?_)
    · have h := ht q
      refine am_Wrun 1 (ps := []) (pc' := 45) (lv' := [(0, .inl (a0)), (1, .inl (a1))]) (st' := [.inl (a1)]) (M' := M) rfl trivial ?_
      obtain ⟨b0, ht, hf⟩ := h
      refine am_Wbr (P := [am_rg a1]) (c := a1 = 0) (t := 53) (f := 48) (st' := []) rfl rfl ⟨b0, trivial⟩ rfl (fun q => ?_) (fun q => ?_)
      · have h := ht q
        refine am_Wrun 2 (ps := []) (pc' := 58) (lv' := [(0, .inl (a0)), (1, .inl (a1))]) (st' := [.inl (1)]) (M' := M) rfl trivial ?_
        exact am_Wretz rfl rfl (Or.inr rfl) h
      · have h := hf q
        refine am_Wrun 2 (ps := []) (pc' := 50) (lv' := [(0, .inl (a0)), (1, .inl (a1))]) (st' := [.inl (1), .inl (a1)]) (M' := M) rfl trivial ?_
        obtain ⟨b0, ht, hf⟩ := h
        refine am_Wbr (P := [am_rg a1, am_rg 1]) (c := ¬ a1 = 1) (t := 57) (f := 53) (st' := []) rfl rfl ⟨b0, (am_rgd rfl), trivial⟩ rfl (fun q => ?_) (fun q => ?_)
        · have h := ht q
          refine am_Wrun 1 (ps := []) (pc' := 58) (lv' := [(0, .inl (a0)), (1, .inl (a1))]) (st' := [.inl (0)]) (M' := M) rfl trivial ?_
          exact am_Wretz rfl rfl (Or.inl rfl) h
        · have h := hf q
          refine am_Wrun 2 (ps := []) (pc' := 58) (lv' := [(0, .inl (a0)), (1, .inl (a1))]) (st' := [.inl (1)]) (M' := M) rfl trivial ?_
          exact am_Wretz rfl rfl (Or.inr rfl) h
    · have h := hf q
      refine am_Wrun 2 (ps := []) (pc' := 28) (lv' := [(0, .inl (a0)), (1, .inl (a1))]) (st' := [.inl (1), .inl (a1)]) (M' := M) rfl trivial ?_
      obtain ⟨b0, ht, hf⟩ := h
      refine am_Wbr (P := [am_rg a1, am_rg 1]) (c := a1 < 1) (t := 42) (f := 31) (st' := []) rfl rfl ⟨b0, (am_rgd rfl), trivial⟩ rfl (fun q => ?_) (fun q => ?_)
      · have h := ht q
        refine am_Wrun 1 (ps := []) (pc' := 43) (lv' := [(0, .inl (a0)), (1, .inl (a1))]) (st' := [.inl (0)]) (M' := M) rfl trivial ?_
        exact am_Wretz rfl rfl (Or.inl rfl) h
      · have h := hf q
        refine am_Wrun 2 (ps := [-32768 ≤ (2000 : Int) ∧ (2000 : Int) ≤ 32767]) (pc' := 35) (lv' := [(0, .inl (a0)), (1, .inl (a1))]) (st' := [.inl (2000), .inl (a1)]) (M' := M) rfl ⟨⟨by decide, by decide⟩, trivial⟩ ?_
        obtain ⟨b0, ht, hf⟩ := h
        refine am_Wbr (P := [am_rg a1, am_rg 2000]) (c := 2000 < a1) (t := 42) (f := 38) (st' := []) rfl rfl ⟨b0, (am_rgd rfl), trivial⟩ rfl (fun q => ?_) (fun q => ?_)
        · have h := ht q
          refine am_Wrun 1 (ps := []) (pc' := 43) (lv' := [(0, .inl (a0)), (1, .inl (a1))]) (st' := [.inl (0)]) (M' := M) rfl trivial ?_
          exact am_Wretz rfl rfl (Or.inl rfl) h
        · have h := hf q
          refine am_Wrun 2 (ps := []) (pc' := 43) (lv' := [(0, .inl (a0)), (1, .inl (a1))]) (st' := [.inl (1)]) (M' := M) rfl trivial ?_
          exact am_Wretz rfl rfl (Or.inr rfl) h
  · have h := hf q
    refine am_Wrun 1 (ps := []) (pc' := 5) (lv' := [(0, .inl (a0)), (1, .inl (a1))]) (st' := [.inl (a1)]) (M' := M) rfl trivial ?_
    obtain ⟨b0, ht, hf⟩ := h
    refine am_Wbr (P := [am_rg a1]) (c := a1 < 0) (t := 19) (f := 8) (st' := []) rfl rfl ⟨b0, trivial⟩ rfl (fun q => ?_) (fun q => ?_)
    · have h := ht q
      refine am_Wrun 1 (ps := []) (pc' := 20) (lv' := [(0, .inl (a0)), (1, .inl (a1))]) (st' := [.inl (0)]) (M' := M) rfl trivial ?_
      exact am_Wretz rfl rfl (Or.inl rfl) h
    · have h := hf q
      refine am_Wrun 2 (ps := [-32768 ≤ (500 : Int) ∧ (500 : Int) ≤ 32767]) (pc' := 12) (lv' := [(0, .inl (a0)), (1, .inl (a1))]) (st' := [.inl (500), .inl (a1)]) (M' := M) rfl ⟨⟨by decide, by decide⟩, trivial⟩ ?_
      obtain ⟨b0, ht, hf⟩ := h
      refine am_Wbr (P := [am_rg a1, am_rg 500]) (c := 500 < a1) (t := 19) (f := 15) (st' := []) rfl rfl ⟨b0, (am_rgd rfl), trivial⟩ rfl (fun q => ?_) (fun q => ?_)
      · have h := ht q
        refine am_Wrun 1 (ps := []) (pc' := 20) (lv' := [(0, .inl (a0)), (1, .inl (a1))]) (st' := [.inl (0)]) (M' := M) rfl trivial ?_
        exact am_Wretz rfl rfl (Or.inl rfl) h
      · have h := hf q
        refine am_Wrun 2 (ps := []) (pc' := 20) (lv' := [(0, .inl (a0)), (1, .inl (a1))]) (st' := [.inl (1)]) (M' := M) rfl trivial ?_
        exact am_Wretz rfl rfl (Or.inr rfl) h
abbrev dt_X5_set : am_D := (tk_X5_set, 5, 4, some .int, tb_hn 91)
def wp_X5_set (a0 : Int) (a1 : Int) (M : am_M) (Q : Int → am_M → Prop) (X : am_X) : Prop := wp_X5_refuseNoSetting a0 M (fun M1 => wp_X5_isSettingValue a0 a1 M1 (fun x2 M3 => (am_rg x2) ∧ (¬ x2 = 0 → wp_X0_remember M3 (fun M4 => (0 ≤ (a0 : Int) ∧ (a0 : Int) < 3) ∧ (0 ≤ (a0 : Int) ∧ (a0 : Int) < 3) ∧ (wp_X5_pointsChanged (am_up M4 6 a0 a1) (fun M5 => Q (M4 6 a0) M5)))) ∧ (¬ (¬ x2 = 0) → X 0 M3))) X
set_option maxRecDepth 20000 in
theorem tm_X5_set {a0 a1 : Int} {M : am_M} {Q : Int → am_M → Prop} {X : am_X} (h : wp_X5_set a0 a1 M Q X) : am_CC 7 91 [.inr (.inl (some 0)), .inl (a0), .inl (a1)] M (am_QI Q) X := by
  refine ⟨Nat.le_of_ble_eq_true rfl, ?_⟩
  show am_W (am_CC 6) dt_X5_set 6 0 none (am_QI Q) (am_qx 91 X) (0, 0, [(0, .inr (.inl (some 0))), (1, .inl (a0)), (2, .inl (a1))], [], M)
  have hX : ∀ E M, X E M → am_qx 91 X E M := fun E M q => ⟨⟨rfl, by decide⟩, q⟩
  refine am_Wrun 1 (ps := []) (pc' := 1) (lv' := [(0, .inr (.inl (some 0))), (1, .inl (a0)), (2, .inl (a1))]) (st' := [.inl (a0)]) (M' := M) rfl trivial ?_
  refine am_WcallS (y := 92) (n := 1) (f := 4) (co := 0) (as := [.inl (a0)]) (st' := []) rfl rfl rfl rfl rfl rfl rfl rfl rfl (Nat.zero_le _) rfl (am_CC_le (Nat.le_of_ble_eq_true rfl) (tm_X5_refuseNoSetting h)) (fun r M1 q => ?_) (fun E M q => hX _ _ q)
  obtain ⟨rfl, h⟩ := q
  refine am_Wrun 2 (ps := []) (pc' := 6) (lv' := [(0, .inr (.inl (some 0))), (1, .inl (a0)), (2, .inl (a1))]) (st' := [.inl (a1), .inl (a0)]) (M' := M1) rfl trivial ?_
  refine am_WcallS (y := 93) (n := 2) (f := 9) (co := 0) (as := [.inl (a0), .inl (a1)]) (st' := []) rfl rfl rfl rfl rfl rfl rfl rfl rfl (Nat.zero_le _) rfl (am_CC_le (Nat.le_of_ble_eq_true rfl) (tm_X5_isSettingValue h)) (fun r M3 q => ?_) (fun _ _ q => q.elim)
  obtain ⟨x2, rfl, h⟩ := q
  obtain ⟨b0, ht, hf⟩ := h
  refine am_Wbr (P := [am_rg x2]) (c := ¬ x2 = 0) (t := 22) (f := 12) (st' := []) rfl rfl ⟨b0, trivial⟩ rfl (fun q => ?_) (fun q => ?_)
  · have h := ht q
    refine am_Wrun 4 (ps := []) (pc' := 30) (lv' := [(0, .inr (.inl (some 0))), (1, .inl (a0)), (2, .inl (a1))]) (st' := [.inr (.inl (some 1)), .inr (.inl (some 14))]) (M' := M3) rfl trivial ?_
    refine am_WcallV (y := 1) (n := 2) (a := 14) (f := 33) (as := [.inr (.inl (some 1))]) (st' := []) rfl rfl rfl rfl rfl rfl rfl rfl rfl rfl (Nat.zero_le _) rfl (am_CC_le (Nat.le_of_ble_eq_true rfl) (tm_X0_remember h)) (fun r M4 q => ?_) (fun _ _ q => q.elim)
    obtain ⟨rfl, h⟩ := q
    obtain ⟨c0_0, c1_0, h⟩ := h
    refine am_Wrun 13 (ps := [0 ≤ (a0 : Int) ∧ (a0 : Int) < 3, 0 ≤ (a0 : Int) ∧ (a0 : Int) < 3]) (pc' := 54) (lv' := [(3, .inl (M4 6 a0)), (0, .inr (.inl (some 0))), (1, .inl (a0)), (2, .inl (a1))]) (st' := [.inr (.inl (some 0))]) (M' := (am_up M4 6 a0 a1)) rfl ⟨c0_0, c1_0, trivial⟩ ?_
    refine am_WcallV (y := 82) (n := 1) (a := 0) (f := 57) (as := []) (st' := []) rfl rfl rfl rfl rfl rfl rfl rfl rfl rfl (Nat.zero_le _) rfl (am_CC_le (Nat.le_of_ble_eq_true rfl) (tm_X5_pointsChanged h)) (fun r M5 q => ?_) (fun _ _ q => q.elim)
    obtain ⟨rfl, h⟩ := q
    refine am_Wrun 1 (ps := []) (pc' := 58) (lv' := [(3, .inl (M4 6 a0)), (0, .inr (.inl (some 0))), (1, .inl (a0)), (2, .inl (a1))]) (st' := [.inl (M4 6 a0)]) (M' := M5) rfl trivial ?_
    exact am_Wreti rfl rfl h
  · have h := hf q
    exact am_Wthr (is := 92) (ic := 63) (E := 0) rfl (Nat.le_of_ble_eq_true rfl) rfl rfl rfl rfl (Or.inl ⟨rfl, rfl, rfl⟩) (hX _ _ h)
abbrev dt_L_set : am_D := (tk_L_set, 9, 5, some .int, tb_hn 205)
def wp_L_set (a1 : Int) (a2 : Int) (M : am_M) (Q : Int → am_M → Prop) : Prop := wp_X5_set a1 a2 M (fun x1 M2 => (am_rg x1) ∧ (Q 0 (am_up M2 80 0 x1))) (fun E M3 => (E = 2 ∧ Q 1 M3) ∨ (E = 0 ∧ Q 2 M3))
set_option maxRecDepth 20000 in
theorem tm_L_set {a1 a2 : Int} {M : am_M} {Q : Int → am_M → Prop} (h : wp_L_set a1 a2 M Q) : am_CC 8 205 [.inr (.inl (some 0)), .inl (a1), .inl (a2), .inr (.inl (some 80))] M (am_QI Q) (fun _ _ => False) := by
  refine ⟨Nat.le_of_ble_eq_true rfl, ?_⟩
  show am_W (am_CC 7) dt_L_set 7 1 none (am_QI Q) (am_qx 205 (fun _ _ => False)) (0, 0, [(0, .inr (.inl (some 0))), (1, .inl (a1)), (2, .inl (a2)), (3, .inr (.inl (some 80)))], [], M)
  refine am_Wrun 5 (ps := []) (pc' := 5) (lv' := [(0, .inr (.inl (some 0))), (1, .inl (a1)), (2, .inl (a2)), (3, .inr (.inl (some 80)))]) (st' := [.inl (a2), .inl (a1), .inr (.inl (some 0)), .inl (0), .inr (.inl (some 80))]) (M' := M) rfl trivial ?_
  refine am_WcallV (y := 91) (n := 3) (a := 0) (f := 8) (as := [.inl (a1), .inl (a2)]) (st' := [.inl (0), .inr (.inl (some 80))]) rfl rfl rfl rfl rfl rfl rfl rfl rfl rfl (Nat.zero_le _) rfl (am_CC_le (Nat.le_of_ble_eq_true rfl) (tm_X5_set h)) (fun r M2 q => ?_) (fun E M3 q => ?_)
  · obtain ⟨x1, rfl, h⟩ := q
    obtain ⟨c0_0, h⟩ := h
    refine am_Wrun 4 (ps := [am_rg x1, 0 ≤ (0 : Int) ∧ (0 : Int) < 1]) (pc' := 22) (lv' := [(0, .inr (.inl (some 0))), (1, .inl (a1)), (2, .inl (a2)), (3, .inr (.inl (some 80)))]) (st' := [.inl (0)]) (M' := (am_up M2 80 0 x1)) rfl ⟨c0_0, ⟨by decide, by decide⟩, trivial⟩ ?_
    exact am_Wreti rfl rfl h
  · rcases q with ⟨rfl, h⟩ | ⟨rfl, h⟩
    · show 0 + 1 ≤ 1 ∧ am_W (am_CC 7) dt_L_set 7 1 none (am_QI Q) _ (0 + 1, 15, [(0, .inr (.inl (some 0))), (1, .inl (a1)), (2, .inl (a2)), (3, .inr (.inl (some 80)))], [], M3)
      refine ⟨Nat.le_refl _, ?_⟩
      refine am_Wrun 1 (ps := []) (pc' := 16) (lv' := [(0, .inr (.inl (some 0))), (1, .inl (a1)), (2, .inl (a2)), (3, .inr (.inl (some 80)))]) (st' := [.inl (1)]) (M' := M3) rfl trivial ?_
      exact am_Wreti rfl rfl h
    · show 0 + 1 ≤ 1 ∧ am_W (am_CC 7) dt_L_set 7 1 none (am_QI Q) _ (0 + 1, 19, [(0, .inr (.inl (some 0))), (1, .inl (a1)), (2, .inl (a2)), (3, .inr (.inl (some 80)))], [], M3)
      refine ⟨Nat.le_refl _, ?_⟩
      refine am_Wrun 1 (ps := []) (pc' := 20) (lv' := [(0, .inr (.inl (some 0))), (1, .inl (a1)), (2, .inl (a2)), (3, .inr (.inl (some 80)))]) (st' := [.inl (2)]) (M' := M3) rfl trivial ?_
      exact am_Wreti rfl rfl h
abbrev dt_X6_set : am_D := (tk_X6_set, 6, 4, some .int, tb_hn 153)
def wp_X6_set (a0 : Int) (a1 : Int) (M : am_M) (Q : Int → am_M → Prop) : Prop := wp_X6_in a0 0 2 (am_up M 69 5 0) (fun x1 M2 => (am_rg x1) ∧ (¬ x1 = 0 → (0 ≤ (a0 : Int) ∧ (a0 : Int) < 3) ∧ (0 ≤ (a0 : Int) ∧ (a0 : Int) < 3) ∧ (wp_X6_in a1 (M2 73 a0) (M2 74 a0) M2 (fun x3 M4 => (am_rg x3) ∧ (¬ x3 = 0 → wp_X6_save M4 (fun M5 => (0 ≤ (4 + a0 : Int) ∧ (4 + a0 : Int) < 203) ∧ (0 ≤ (4 + a0 : Int) ∧ (4 + a0 : Int) < 203) ∧ (Q (M5 70 (4 + a0)) (am_up M5 70 (4 + a0) a1)))) ∧ (¬ (¬ x3 = 0) → wp_X6_fails 2 M4 (fun x6 M7 => Q x6 M7))))) ∧ (¬ (¬ x1 = 0) → wp_X6_fails 1 M2 (fun x8 M9 => Q x8 M9)))
set_option maxRecDepth 20000 in
theorem tm_X6_set {a0 a1 : Int} {M : am_M} {Q : Int → am_M → Prop} (h : wp_X6_set a0 a1 M Q) : am_CC 2 153 [.inr (.inl (some 69)), .inl (a0), .inl (a1)] M (am_QI Q) (fun _ _ => False) := by
  refine ⟨Nat.le_of_ble_eq_true rfl, ?_⟩
  show am_W (am_CC 1) dt_X6_set 1 0 none (am_QI Q) (am_qx 153 (fun _ _ => False)) (0, 0, [(0, .inr (.inl (some 69))), (1, .inl (a0)), (2, .inl (a1))], [], M)
  refine am_Wrun 6 (ps := []) (pc' := 8) (lv' := [(0, .inr (.inl (some 69))), (1, .inl (a0)), (2, .inl (a1))]) (st' := [.inl (2), .inl (0), .inl (a0)]) (M' := (am_up M 69 5 0)) rfl trivial ?_
  refine am_WcallS (y := 112) (n := 3) (f := 11) (co := 0) (as := [.inl (a0), .inl (0), .inl (2)]) (st' := []) rfl rfl rfl rfl rfl rfl rfl rfl rfl (Nat.zero_le _) rfl (am_CC_le (Nat.le_of_ble_eq_true rfl) (tm_X6_in h)) (fun r M2 q => ?_) (fun _ _ q => q.elim)
  obtain ⟨x1, rfl, h⟩ := q
  obtain ⟨b0, ht, hf⟩ := h
  refine am_Wbr (P := [am_rg x1]) (c := ¬ x1 = 0) (t := 20) (f := 14) (st' := []) rfl rfl ⟨b0, trivial⟩ rfl (fun q => ?_) (fun q => ?_)
  · have h := ht q
    obtain ⟨c0_0, c1_0, h⟩ := h
    refine am_Wrun 9 (ps := [0 ≤ (a0 : Int) ∧ (a0 : Int) < 3, 0 ≤ (a0 : Int) ∧ (a0 : Int) < 3]) (pc' := 33) (lv' := [(0, .inr (.inl (some 69))), (1, .inl (a0)), (2, .inl (a1))]) (st' := [.inl (M2 74 a0), .inl (M2 73 a0), .inl (a1)]) (M' := M2) rfl ⟨c0_0, c1_0, trivial⟩ ?_
    refine am_WcallS (y := 112) (n := 3) (f := 36) (co := 0) (as := [.inl (a1), .inl (M2 73 a0), .inl (M2 74 a0)]) (st' := []) rfl rfl rfl rfl rfl rfl rfl rfl rfl (Nat.zero_le _) rfl (am_CC_le (Nat.le_of_ble_eq_true rfl) (tm_X6_in h)) (fun r M4 q => ?_) (fun _ _ q => q.elim)
    obtain ⟨x3, rfl, h⟩ := q
    obtain ⟨b0, ht, hf⟩ := h
    refine am_Wbr (P := [am_rg x3]) (c := ¬ x3 = 0) (t := 45) (f := 39) (st' := []) rfl rfl ⟨b0, trivial⟩ rfl (fun q => ?_) (fun q => ?_)
    · have h := ht q
      refine am_Wrun 1 (ps := []) (pc' := 46) (lv' := [(0, .inr (.inl (some 69))), (1, .inl (a0)), (2, .inl (a1))]) (st' := [.inr (.inl (some 69))]) (M' := M4) rfl trivial ?_
      refine am_WcallV (y := 116) (n := 1) (a := 69) (f := 49) (as := []) (st' := []) rfl rfl rfl rfl rfl rfl rfl rfl rfl rfl (Nat.zero_le _) rfl (am_CC_le (Nat.le_of_ble_eq_true rfl) (tm_X6_save h)) (fun r M5 q => ?_) (fun _ _ q => q.elim)
      obtain ⟨rfl, h⟩ := q
      obtain ⟨c0_0, c1_0, h⟩ := h
      refine am_Wrun 15 (ps := [0 ≤ (4 + a0 : Int) ∧ (4 + a0 : Int) < 203, 0 ≤ (4 + a0 : Int) ∧ (4 + a0 : Int) < 203]) (pc' := 68) (lv' := [(3, .inl (M5 70 (4 + a0))), (0, .inr (.inl (some 69))), (1, .inl (a0)), (2, .inl (a1))]) (st' := [.inl (M5 70 (4 + a0))]) (M' := (am_up M5 70 (4 + a0) a1)) rfl ⟨c0_0, c1_0, trivial⟩ ?_
      exact am_Wreti rfl rfl h
    · have h := hf q
      refine am_Wrun 2 (ps := []) (pc' := 41) (lv' := [(0, .inr (.inl (some 69))), (1, .inl (a0)), (2, .inl (a1))]) (st' := [.inl (2), .inr (.inl (some 69))]) (M' := M4) rfl trivial ?_
      refine am_WcallV (y := 113) (n := 2) (a := 69) (f := 44) (as := [.inl (2)]) (st' := []) rfl rfl rfl rfl rfl rfl rfl rfl rfl rfl (Nat.zero_le _) rfl (am_CC_le (Nat.le_of_ble_eq_true rfl) (tm_X6_fails h)) (fun r M7 q => ?_) (fun _ _ q => q.elim)
      obtain ⟨x6, rfl, h⟩ := q
      exact am_Wreti rfl rfl h
  · have h := hf q
    refine am_Wrun 2 (ps := []) (pc' := 16) (lv' := [(0, .inr (.inl (some 69))), (1, .inl (a0)), (2, .inl (a1))]) (st' := [.inl (1), .inr (.inl (some 69))]) (M' := M2) rfl trivial ?_
    refine am_WcallV (y := 113) (n := 2) (a := 69) (f := 19) (as := [.inl (1)]) (st' := []) rfl rfl rfl rfl rfl rfl rfl rfl rfl rfl (Nat.zero_le _) rfl (am_CC_le (Nat.le_of_ble_eq_true rfl) (tm_X6_fails h)) (fun r M9 q => ?_) (fun _ _ q => q.elim)
    obtain ⟨x8, rfl, h⟩ := q
    exact am_Wreti rfl rfl h
abbrev dt_X5_note : am_D := (tk_X5_note, 5, 3, some .int, tb_hn 94)
def wj_X5_note_14 (Q : Int → am_M → Prop) (X : am_X) (M : am_M) : Prop := X 0 M
def wj_X5_note_46 (Q : Int → am_M → Prop) (X : am_X) (M : am_M) : Prop := X 1 M
def wp_X5_note (a0 : Int) (a1 : Int) (M : am_M) (Q : Int → am_M → Prop) (X : am_X) : Prop := wp_X5_isTime a0 M (fun x1 M2 => (am_rg x1) ∧ (x1 = 0 → wj_X5_note_14 Q X  M2) ∧ (¬ x1 = 0 → wp_X5_isValue a1 M2 (fun x3 M4 => (am_rg x3) ∧ (¬ x3 = 0 → (am_rg (M4 1 8)) ∧ ((M4 1 8) < 0 → wj_X5_note_46 Q X  M4) ∧ (¬ (M4 1 8) < 0 → (am_rg (M4 1 8)) ∧ ((M4 1 8) < 8 → wp_X0_remember M4 (fun M5 => (0 ≤ (M5 1 8 : Int) ∧ (M5 1 8 : Int) < 8) ∧ (0 ≤ ((am_up M5 7 (M5 1 8) a0) 1 8 : Int) ∧ ((am_up M5 7 (M5 1 8) a0) 1 8 : Int) < 8) ∧ (Q (((am_up (am_up (am_up M5 7 (M5 1 8) a0) 8 ((am_up M5 7 (M5 1 8) a0) 1 8) a1) 1 8 (((am_up (am_up M5 7 (M5 1 8) a0) 8 ((am_up M5 7 (M5 1 8) a0) 1 8) a1) 1 8) + 1)) 1 8) - 1) (am_up (am_up (am_up M5 7 (M5 1 8) a0) 8 ((am_up M5 7 (M5 1 8) a0) 1 8) a1) 1 8 (((am_up (am_up M5 7 (M5 1 8) a0) 8 ((am_up M5 7 (M5 1 8) a0) 1 8) a1) 1 8) + 1))))) ∧ (¬ (M4 1 8) < 8 → wj_X5_note_46 Q X  M4))) ∧ (¬ (¬ x3 = 0) → wj_X5_note_14 Q X  M4))))
set_option maxRecDepth 20000 in
theorem tj_X5_note_14 {Q : Int → am_M → Prop} {X : am_X} {QX : am_X} (hX : ∀ E M, X E M → QX E M) (M : am_M) (h : wj_X5_note_14 Q X M) : am_W (am_CC 5) dt_X5_note 5 0 none (am_QI Q) QX (0, 14, [], [], M) := by
  exact am_Wthr (is := 61) (ic := 63) (E := 0) rfl (Nat.le_of_ble_eq_true rfl) rfl rfl rfl rfl (Or.inl ⟨rfl, rfl, rfl⟩) (hX _ _ h)
set_option maxRecDepth 20000 in
theorem tj_X5_note_46 {Q : Int → am_M → Prop} {X : am_X} {QX : am_X} (hX : ∀ E M, X E M → QX E M) (M : am_M) (h : wj_X5_note_46 Q X M) : am_W (am_CC 5) dt_X5_note 5 0 none (am_QI Q) QX (0, 46, [], [], M) := by
  exact am_Wthr (is := 159) (ic := 77) (E := 1) rfl (Nat.le_of_ble_eq_true rfl) rfl rfl rfl rfl (Or.inl ⟨rfl, rfl, rfl⟩) (hX _ _ h)
set_option maxRecDepth 20000 in
theorem tm_X5_note {a0 a1 : Int} {M : am_M} {Q : Int → am_M → Prop} {X : am_X} (h : wp_X5_note a0 a1 M Q X) : am_CC 6 94 [.inr (.inl (some 0)), .inl (a0), .inl (a1)] M (am_QI Q) X := by
  refine ⟨Nat.le_of_ble_eq_true rfl, ?_⟩
  show am_W (am_CC 5) dt_X5_note 5 0 none (am_QI Q) (am_qx 94 X) (0, 0, [(0, .inr (.inl (some 0))), (1, .inl (a0)), (2, .inl (a1))], [], M)
  have hX : ∀ E M, X E M → am_qx 94 X E M := fun E M q => ⟨⟨rfl, by decide⟩, q⟩
  refine am_Wrun 1 (ps := []) (pc' := 1) (lv' := [(0, .inr (.inl (some 0))), (1, .inl (a0)), (2, .inl (a1))]) (st' := [.inl (a0)]) (M' := M) rfl trivial ?_
  refine am_WcallS (y := 77) (n := 1) (f := 4) (co := 0) (as := [.inl (a0)]) (st' := []) rfl rfl rfl rfl rfl rfl rfl rfl rfl (Nat.zero_le _) rfl (am_CC_le (Nat.le_of_ble_eq_true rfl) (tm_X5_isTime h)) (fun r M2 q => ?_) (fun _ _ q => q.elim)
  obtain ⟨x1, rfl, h⟩ := q
  obtain ⟨b0, ht, hf⟩ := h
  refine am_Wbr (P := [am_rg x1]) (c := x1 = 0) (t := 14) (f := 7) (st' := []) rfl rfl ⟨b0, trivial⟩ rfl (fun q => ?_) (fun q => ?_)
  · have h := ht q
    refine am_W_sub [] rfl ?_
    exact tj_X5_note_14 hX  M2 h
  · have h := hf q
    refine am_Wrun 1 (ps := []) (pc' := 8) (lv' := [(0, .inr (.inl (some 0))), (1, .inl (a0)), (2, .inl (a1))]) (st' := [.inl (a1)]) (M' := M2) rfl trivial ?_
    refine am_WcallS (y := 78) (n := 1) (f := 11) (co := 0) (as := [.inl (a1)]) (st' := []) rfl rfl rfl rfl rfl rfl rfl rfl rfl (Nat.zero_le _) rfl (am_CC_le (Nat.le_of_ble_eq_true rfl) (tm_X5_isValue h)) (fun r M4 q => ?_) (fun _ _ q => q.elim)
    obtain ⟨x3, rfl, h⟩ := q
    obtain ⟨b0, ht, hf⟩ := h
    refine am_Wbr (P := [am_rg x3]) (c := ¬ x3 = 0) (t := 24) (f := 14) (st' := []) rfl rfl ⟨b0, trivial⟩ rfl (fun q => ?_) (fun q => ?_)
    · have h := ht q
      refine am_Wrun 3 (ps := []) (pc' := 31) (lv' := [(0, .inr (.inl (some 0))), (1, .inl (a0)), (2, .inl (a1))]) (st' := [.inl (M4 1 8)]) (M' := M4) rfl trivial ?_
      obtain ⟨b0, ht, hf⟩ := h
      refine am_Wbr (P := [am_rg (M4 1 8)]) (c := (M4 1 8) < 0) (t := 46) (f := 34) (st' := []) rfl rfl ⟨b0, trivial⟩ rfl (fun q => ?_) (fun q => ?_)
      · have h := ht q
        refine am_W_sub [] rfl ?_
        exact tj_X5_note_46 hX  M4 h
      · have h := hf q
        refine am_Wrun 4 (ps := [-128 ≤ (8 : Int) ∧ (8 : Int) ≤ 127]) (pc' := 43) (lv' := [(0, .inr (.inl (some 0))), (1, .inl (a0)), (2, .inl (a1))]) (st' := [.inl (8), .inl (M4 1 8)]) (M' := M4) rfl ⟨⟨by decide, by decide⟩, trivial⟩ ?_
        obtain ⟨b0, ht, hf⟩ := h
        refine am_Wbr (P := [am_rg (M4 1 8), am_rg 8]) (c := (M4 1 8) < 8) (t := 56) (f := 46) (st' := []) rfl rfl ⟨b0, (am_rgd rfl), trivial⟩ rfl (fun q => ?_) (fun q => ?_)
        · have h := ht q
          refine am_Wrun 4 (ps := []) (pc' := 64) (lv' := [(0, .inr (.inl (some 0))), (1, .inl (a0)), (2, .inl (a1))]) (st' := [.inr (.inl (some 1)), .inr (.inl (some 14))]) (M' := M4) rfl trivial ?_
          refine am_WcallV (y := 1) (n := 2) (a := 14) (f := 67) (as := [.inr (.inl (some 1))]) (st' := []) rfl rfl rfl rfl rfl rfl rfl rfl rfl rfl (Nat.zero_le _) rfl (am_CC_le (Nat.le_of_ble_eq_true rfl) (tm_X0_remember h)) (fun r M5 q => ?_) (fun _ _ q => q.elim)
          obtain ⟨rfl, h⟩ := q
          obtain ⟨c0_0, c1_0, h⟩ := h
          refine am_Wrun 28 (ps := [0 ≤ (M5 1 8 : Int) ∧ (M5 1 8 : Int) < 8, 0 ≤ ((am_up M5 7 (M5 1 8) a0) 1 8 : Int) ∧ ((am_up M5 7 (M5 1 8) a0) 1 8 : Int) < 8]) (pc' := 121) (lv' := [(0, .inr (.inl (some 0))), (1, .inl (a0)), (2, .inl (a1))]) (st' := [.inl (((am_up (am_up (am_up M5 7 (M5 1 8) a0) 8 ((am_up M5 7 (M5 1 8) a0) 1 8) a1) 1 8 (((am_up (am_up M5 7 (M5 1 8) a0) 8 ((am_up M5 7 (M5 1 8) a0) 1 8) a1) 1 8) + 1)) 1 8) - 1)]) (M' := (am_up (am_up (am_up M5 7 (M5 1 8) a0) 8 ((am_up M5 7 (M5 1 8) a0) 1 8) a1) 1 8 (((am_up (am_up M5 7 (M5 1 8) a0) 8 ((am_up M5 7 (M5 1 8) a0) 1 8) a1) 1 8) + 1))) rfl ⟨c0_0, c1_0, trivial⟩ ?_
          exact am_Wreti rfl rfl h
        · have h := hf q
          refine am_W_sub [] rfl ?_
          exact tj_X5_note_46 hX  M4 h
    · have h := hf q
      refine am_W_sub [] rfl ?_
      exact tj_X5_note_14 hX  M4 h
abbrev dt_L_note : am_D := (tk_L_note, 9, 5, some .int, tb_hn 206)
def wp_L_note (a1 : Int) (a2 : Int) (M : am_M) (Q : Int → am_M → Prop) : Prop := wp_X5_note a1 a2 M (fun x1 M2 => (am_rg x1) ∧ (Q 0 (am_up M2 80 0 x1))) (fun E M3 => (E = 0 ∧ Q 1 M3) ∨ (E = 1 ∧ Q 2 M3))
set_option maxRecDepth 20000 in
theorem tm_L_note {a1 a2 : Int} {M : am_M} {Q : Int → am_M → Prop} (h : wp_L_note a1 a2 M Q) : am_CC 7 206 [.inr (.inl (some 0)), .inl (a1), .inl (a2), .inr (.inl (some 80))] M (am_QI Q) (fun _ _ => False) := by
  refine ⟨Nat.le_of_ble_eq_true rfl, ?_⟩
  show am_W (am_CC 6) dt_L_note 6 1 none (am_QI Q) (am_qx 206 (fun _ _ => False)) (0, 0, [(0, .inr (.inl (some 0))), (1, .inl (a1)), (2, .inl (a2)), (3, .inr (.inl (some 80)))], [], M)
  refine am_Wrun 5 (ps := []) (pc' := 5) (lv' := [(0, .inr (.inl (some 0))), (1, .inl (a1)), (2, .inl (a2)), (3, .inr (.inl (some 80)))]) (st' := [.inl (a2), .inl (a1), .inr (.inl (some 0)), .inl (0), .inr (.inl (some 80))]) (M' := M) rfl trivial ?_
  refine am_WcallV (y := 94) (n := 3) (a := 0) (f := 8) (as := [.inl (a1), .inl (a2)]) (st' := [.inl (0), .inr (.inl (some 80))]) rfl rfl rfl rfl rfl rfl rfl rfl rfl rfl (Nat.zero_le _) rfl (am_CC_le (Nat.le_of_ble_eq_true rfl) (tm_X5_note h)) (fun r M2 q => ?_) (fun E M3 q => ?_)
  · obtain ⟨x1, rfl, h⟩ := q
    obtain ⟨c0_0, h⟩ := h
    refine am_Wrun 4 (ps := [am_rg x1, 0 ≤ (0 : Int) ∧ (0 : Int) < 1]) (pc' := 22) (lv' := [(0, .inr (.inl (some 0))), (1, .inl (a1)), (2, .inl (a2)), (3, .inr (.inl (some 80)))]) (st' := [.inl (0)]) (M' := (am_up M2 80 0 x1)) rfl ⟨c0_0, ⟨by decide, by decide⟩, trivial⟩ ?_
    exact am_Wreti rfl rfl h
  · rcases q with ⟨rfl, h⟩ | ⟨rfl, h⟩
    · show 0 + 1 ≤ 1 ∧ am_W (am_CC 6) dt_L_note 6 1 none (am_QI Q) _ (0 + 1, 15, [(0, .inr (.inl (some 0))), (1, .inl (a1)), (2, .inl (a2)), (3, .inr (.inl (some 80)))], [], M3)
      refine ⟨Nat.le_refl _, ?_⟩
      refine am_Wrun 1 (ps := []) (pc' := 16) (lv' := [(0, .inr (.inl (some 0))), (1, .inl (a1)), (2, .inl (a2)), (3, .inr (.inl (some 80)))]) (st' := [.inl (1)]) (M' := M3) rfl trivial ?_
      exact am_Wreti rfl rfl h
    · show 0 + 1 ≤ 1 ∧ am_W (am_CC 6) dt_L_note 6 1 none (am_QI Q) _ (0 + 1, 19, [(0, .inr (.inl (some 0))), (1, .inl (a1)), (2, .inl (a2)), (3, .inr (.inl (some 80)))], [], M3)
      refine ⟨Nat.le_refl _, ?_⟩
      refine am_Wrun 1 (ps := []) (pc' := 20) (lv' := [(0, .inr (.inl (some 0))), (1, .inl (a1)), (2, .inl (a2)), (3, .inr (.inl (some 80)))]) (st' := [.inl (2)]) (M' := M3) rfl trivial ?_
      exact am_Wreti rfl rfl h
abbrev dt_X6_note : am_D := (tk_X6_note, 6, 3, some .int, tb_hn 154)
def wp_X6_note (a0 : Int) (a1 : Int) (M : am_M) (Q : Int → am_M → Prop) : Prop := wp_X6_isEntry a0 a1 (am_up M 69 5 0) (fun x1 M2 => (am_rg x1) ∧ (¬ x1 = 0 → (am_rg (M2 70 1)) ∧ (¬ (M2 70 1) = 8 → wp_X6_save M2 (fun M3 => (0 ≤ (187 + (2 * (M3 70 1)) : Int) ∧ (187 + (2 * (M3 70 1)) : Int) < 203) ∧ (0 ≤ ((187 + (2 * ((am_up M3 70 (187 + (2 * (M3 70 1))) a0) 70 1))) + 1 : Int) ∧ ((187 + (2 * ((am_up M3 70 (187 + (2 * (M3 70 1))) a0) 70 1))) + 1 : Int) < 203) ∧ (Q (((am_up (am_up (am_up M3 70 (187 + (2 * (M3 70 1))) a0) 70 ((187 + (2 * ((am_up M3 70 (187 + (2 * (M3 70 1))) a0) 70 1))) + 1) a1) 70 1 (((am_up (am_up M3 70 (187 + (2 * (M3 70 1))) a0) 70 ((187 + (2 * ((am_up M3 70 (187 + (2 * (M3 70 1))) a0) 70 1))) + 1) a1) 70 1) + 1)) 70 1) - 1) (am_up (am_up (am_up M3 70 (187 + (2 * (M3 70 1))) a0) 70 ((187 + (2 * ((am_up M3 70 (187 + (2 * (M3 70 1))) a0) 70 1))) + 1) a1) 70 1 (((am_up (am_up M3 70 (187 + (2 * (M3 70 1))) a0) 70 ((187 + (2 * ((am_up M3 70 (187 + (2 * (M3 70 1))) a0) 70 1))) + 1) a1) 70 1) + 1))))) ∧ (¬ (¬ (M2 70 1) = 8) → wp_X6_fails 2 M2 (fun x4 M5 => Q x4 M5))) ∧ (¬ (¬ x1 = 0) → wp_X6_fails 1 M2 (fun x6 M7 => Q x6 M7)))
set_option maxRecDepth 20000 in
theorem tm_X6_note {a0 a1 : Int} {M : am_M} {Q : Int → am_M → Prop} (h : wp_X6_note a0 a1 M Q) : am_CC 3 154 [.inr (.inl (some 69)), .inl (a0), .inl (a1)] M (am_QI Q) (fun _ _ => False) := by
  refine ⟨Nat.le_of_ble_eq_true rfl, ?_⟩
  show am_W (am_CC 2) dt_X6_note 2 0 none (am_QI Q) (am_qx 154 (fun _ _ => False)) (0, 0, [(0, .inr (.inl (some 69))), (1, .inl (a0)), (2, .inl (a1))], [], M)
  refine am_Wrun 5 (ps := []) (pc' := 7) (lv' := [(0, .inr (.inl (some 69))), (1, .inl (a0)), (2, .inl (a1))]) (st' := [.inl (a1), .inl (a0)]) (M' := (am_up M 69 5 0)) rfl trivial ?_
  refine am_WcallS (y := 111) (n := 2) (f := 10) (co := 0) (as := [.inl (a0), .inl (a1)]) (st' := []) rfl rfl rfl rfl rfl rfl rfl rfl rfl (Nat.zero_le _) rfl (am_CC_le (Nat.le_of_ble_eq_true rfl) (tm_X6_isEntry h)) (fun r M2 q => ?_) (fun _ _ q => q.elim)
  obtain ⟨x1, rfl, h⟩ := q
  obtain ⟨b0, ht, hf⟩ := h
  refine am_Wbr (P := [am_rg x1]) (c := ¬ x1 = 0) (t := 19) (f := 13) (st' := []) rfl rfl ⟨b0, trivial⟩ rfl (fun q => ?_) (fun q => ?_)
  · have h := ht q
    refine am_Wrun 5 (ps := [0 ≤ (1 : Int) ∧ (1 : Int) < 203, -128 ≤ (8 : Int) ∧ (8 : Int) ≤ 127]) (pc' := 27) (lv' := [(0, .inr (.inl (some 69))), (1, .inl (a0)), (2, .inl (a1))]) (st' := [.inl (8), .inl (M2 70 1)]) (M' := M2) rfl ⟨⟨by decide, by decide⟩, ⟨by decide, by decide⟩, trivial⟩ ?_
    obtain ⟨b0, ht, hf⟩ := h
    refine am_Wbr (P := [am_rg (M2 70 1), am_rg 8]) (c := ¬ (M2 70 1) = 8) (t := 36) (f := 30) (st' := []) rfl rfl ⟨b0, (am_rgd rfl), trivial⟩ rfl (fun q => ?_) (fun q => ?_)
    · have h := ht q
      refine am_Wrun 1 (ps := []) (pc' := 37) (lv' := [(0, .inr (.inl (some 69))), (1, .inl (a0)), (2, .inl (a1))]) (st' := [.inr (.inl (some 69))]) (M' := M2) rfl trivial ?_
      refine am_WcallV (y := 116) (n := 1) (a := 69) (f := 40) (as := []) (st' := []) rfl rfl rfl rfl rfl rfl rfl rfl rfl rfl (Nat.zero_le _) rfl (am_CC_le (Nat.le_of_ble_eq_true rfl) (tm_X6_save h)) (fun r M3 q => ?_) (fun _ _ q => q.elim)
      obtain ⟨rfl, h⟩ := q
      obtain ⟨c2_0, c5_0, h⟩ := h
      refine am_Wrun 40 (ps := [-32768 ≤ (187 : Int) ∧ (187 : Int) ≤ 32767, 0 ≤ (1 : Int) ∧ (1 : Int) < 203, 0 ≤ (187 + (2 * (M3 70 1)) : Int) ∧ (187 + (2 * (M3 70 1)) : Int) < 203, -32768 ≤ (187 : Int) ∧ (187 : Int) ≤ 32767, 0 ≤ (1 : Int) ∧ (1 : Int) < 203, 0 ≤ ((187 + (2 * ((am_up M3 70 (187 + (2 * (M3 70 1))) a0) 70 1))) + 1 : Int) ∧ ((187 + (2 * ((am_up M3 70 (187 + (2 * (M3 70 1))) a0) 70 1))) + 1 : Int) < 203, 0 ≤ (1 : Int) ∧ (1 : Int) < 203, 0 ≤ (1 : Int) ∧ (1 : Int) < 203, 0 ≤ (1 : Int) ∧ (1 : Int) < 203]) (pc' := 96) (lv' := [(0, .inr (.inl (some 69))), (1, .inl (a0)), (2, .inl (a1))]) (st' := [.inl (((am_up (am_up (am_up M3 70 (187 + (2 * (M3 70 1))) a0) 70 ((187 + (2 * ((am_up M3 70 (187 + (2 * (M3 70 1))) a0) 70 1))) + 1) a1) 70 1 (((am_up (am_up M3 70 (187 + (2 * (M3 70 1))) a0) 70 ((187 + (2 * ((am_up M3 70 (187 + (2 * (M3 70 1))) a0) 70 1))) + 1) a1) 70 1) + 1)) 70 1) - 1)]) (M' := (am_up (am_up (am_up M3 70 (187 + (2 * (M3 70 1))) a0) 70 ((187 + (2 * ((am_up M3 70 (187 + (2 * (M3 70 1))) a0) 70 1))) + 1) a1) 70 1 (((am_up (am_up M3 70 (187 + (2 * (M3 70 1))) a0) 70 ((187 + (2 * ((am_up M3 70 (187 + (2 * (M3 70 1))) a0) 70 1))) + 1) a1) 70 1) + 1))) rfl ⟨⟨by decide, by decide⟩, ⟨by decide, by decide⟩, c2_0, ⟨by decide, by decide⟩, ⟨by decide, by decide⟩, c5_0, ⟨by decide, by decide⟩, ⟨by decide, by decide⟩, ⟨by decide, by decide⟩, trivial⟩ ?_
      exact am_Wreti rfl rfl h
    · have h := hf q
      refine am_Wrun 2 (ps := []) (pc' := 32) (lv' := [(0, .inr (.inl (some 69))), (1, .inl (a0)), (2, .inl (a1))]) (st' := [.inl (2), .inr (.inl (some 69))]) (M' := M2) rfl trivial ?_
      refine am_WcallV (y := 113) (n := 2) (a := 69) (f := 35) (as := [.inl (2)]) (st' := []) rfl rfl rfl rfl rfl rfl rfl rfl rfl rfl (Nat.zero_le _) rfl (am_CC_le (Nat.le_of_ble_eq_true rfl) (tm_X6_fails h)) (fun r M5 q => ?_) (fun _ _ q => q.elim)
      obtain ⟨x4, rfl, h⟩ := q
      exact am_Wreti rfl rfl h
  · have h := hf q
    refine am_Wrun 2 (ps := []) (pc' := 15) (lv' := [(0, .inr (.inl (some 69))), (1, .inl (a0)), (2, .inl (a1))]) (st' := [.inl (1), .inr (.inl (some 69))]) (M' := M2) rfl trivial ?_
    refine am_WcallV (y := 113) (n := 2) (a := 69) (f := 18) (as := [.inl (1)]) (st' := []) rfl rfl rfl rfl rfl rfl rfl rfl rfl rfl (Nat.zero_le _) rfl (am_CC_le (Nat.le_of_ble_eq_true rfl) (tm_X6_fails h)) (fun r M7 q => ?_) (fun _ _ q => q.elim)
    obtain ⟨x6, rfl, h⟩ := q
    exact am_Wreti rfl rfl h
abbrev dt_X1_commonDivisor : am_D := (tk_X1_commonDivisor, 1, 6, some .int, tb_hn 22)
def wl_X1_commonDivisor_7 (Q : Int → am_M → Prop) : Nat → Int → Int → Int → am_M → Prop
  | 0, _, _, _, _ => False
  | n + 1, v2, v3, v4, M => (am_rg v4) ∧ (50 ≤ v4 → Q v2 M) ∧ (¬ 50 ≤ v4 → (am_rg v3) ∧ (v3 = 0 → Q v2 M) ∧ (¬ v3 = 0 → (am_rg v2 ∧ am_rg v3 ∧ (0 : Int) < v3) ∧ (wl_X1_commonDivisor_7 Q n v3 (Int.tmod v2 v3) (v4 + 1) M)))
def wp_X1_commonDivisor (a0 : Int) (a1 : Int) (M : am_M) (Q : Int → am_M → Prop) : Prop := ∃ e7, wl_X1_commonDivisor_7 Q e7 a0 a1 0 M
set_option maxRecDepth 20000 in
theorem tw_X1_commonDivisor_7 {Q : Int → am_M → Prop} {QX : am_X} : ∀ (n : Nat) (v2 : Int) (v3 : Int) (v4 : Int) (M : am_M), wl_X1_commonDivisor_7 Q n v2 v3 v4 M → am_W (am_CC 0) dt_X1_commonDivisor 0 0 none (am_QI Q) QX (0, 7, [(2, .inl (v2)), (3, .inl (v3)), (4, .inl (v4))], [], M)
  | 0, _, _, _, _, h => h.elim
  | n + 1, v2, v3, v4, M, h => by
    refine am_Wrun 2 (ps := [-128 ≤ (50 : Int) ∧ (50 : Int) ≤ 127]) (pc' := 11) (lv' := [(2, .inl (v2)), (3, .inl (v3)), (4, .inl (v4))]) (st' := [.inl (50), .inl (v4)]) (M' := M) rfl ⟨⟨by decide, by decide⟩, trivial⟩ ?_
    obtain ⟨b0, ht, hf⟩ := h
    refine am_Wbr (P := [am_rg v4, am_rg 50]) (c := 50 ≤ v4) (t := 34) (f := 14) (st' := []) rfl rfl ⟨b0, (am_rgd rfl), trivial⟩ rfl (fun q => ?_) (fun q => ?_)
    · have h := ht q
      refine am_Wrun 1 (ps := []) (pc' := 35) (lv' := [(2, .inl (v2)), (3, .inl (v3)), (4, .inl (v4))]) (st' := [.inl (v2)]) (M' := M) rfl trivial ?_
      exact am_Wreti rfl rfl h
    · have h := hf q
      refine am_Wrun 1 (ps := []) (pc' := 15) (lv' := [(2, .inl (v2)), (3, .inl (v3)), (4, .inl (v4))]) (st' := [.inl (v3)]) (M' := M) rfl trivial ?_
      obtain ⟨b0, ht, hf⟩ := h
      refine am_Wbr (P := [am_rg v3]) (c := v3 = 0) (t := 34) (f := 18) (st' := []) rfl rfl ⟨b0, trivial⟩ rfl (fun q => ?_) (fun q => ?_)
      · have h := ht q
        refine am_Wrun 1 (ps := []) (pc' := 35) (lv' := [(2, .inl (v2)), (3, .inl (v3)), (4, .inl (v4))]) (st' := [.inl (v2)]) (M' := M) rfl trivial ?_
        exact am_Wreti rfl rfl h
      · have h := hf q
        obtain ⟨c0_0, h⟩ := h
        refine am_Wrun 10 (ps := [am_rg v2 ∧ am_rg v3 ∧ (0 : Int) < v3]) (pc' := 7) (lv' := [(4, .inl (v4 + 1)), (3, .inl (Int.tmod v2 v3)), (2, .inl (v3)), (5, .inl (Int.tmod v2 v3))]) (st' := []) (M' := M) rfl ⟨c0_0, trivial⟩ ?_
        refine am_W_sub [2, 1, 0] rfl ?_
        exact tw_X1_commonDivisor_7 n v3 (Int.tmod v2 v3) (v4 + 1) M h
set_option maxRecDepth 20000 in
theorem tm_X1_commonDivisor {a0 a1 : Int} {M : am_M} {Q : Int → am_M → Prop} (h : wp_X1_commonDivisor a0 a1 M Q) : am_CC 1 22 [.inl (a0), .inl (a1)] M (am_QI Q) (fun _ _ => False) := by
  refine ⟨Nat.le_of_ble_eq_true rfl, ?_⟩
  show am_W (am_CC 0) dt_X1_commonDivisor 0 0 none (am_QI Q) (am_qx 22 (fun _ _ => False)) (0, 0, [(0, .inl (a0)), (1, .inl (a1))], [], M)
  refine am_Wrun 6 (ps := []) (pc' := 7) (lv' := [(4, .inl (0)), (3, .inl (a1)), (2, .inl (a0)), (0, .inl (a0)), (1, .inl (a1))]) (st' := []) (M' := M) rfl trivial ?_
  refine am_W_sub [2, 1, 0] rfl ?_
  obtain ⟨n7, h⟩ := h
  exact tw_X1_commonDivisor_7 n7 a0 a1 0 M h
