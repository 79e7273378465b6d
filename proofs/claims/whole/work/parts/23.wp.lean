abbrev dt_X6_aboutStretch : am_D := (tk_X6_aboutStretch, 6, 8, some .int, tb_hn 175)
def wl_X6_aboutStretch_47 (Q : Int → am_M → Prop) : Nat → Int → Int → Int → Int → Int → Int → am_M → Prop
  | 0, _, _, _, _, _, _, _ => False
  | n + 1, v2, v3, v4, v5, v6, v7, M => (am_rg v7) ∧ (am_rg v4) ∧ (v4 < v7 → (am_rg v2) ∧ (¬ v2 = 0 → (am_rg v2) ∧ (¬ v2 = 1 → (am_rg v2) ∧ (¬ v2 = 2 → Q v6 M) ∧ (¬ (¬ v2 = 2) → Q v5 M)) ∧ (¬ (¬ v2 = 1) → Q ((v4 + 1) - v3) M)) ∧ (¬ (¬ v2 = 0) → Q v3 M)) ∧ (¬ v4 < v7 → (0 ≤ (127 + v7 : Int) ∧ (127 + v7 : Int) < 203) ∧ (wp_X6_isBroken v7 M (fun x5 M6 => (am_rg x5) ∧ (x5 = 0 → wl_X6_aboutStretch_47 Q n v2 v3 v4 (v5 + (M 70 (127 + v7))) (v6 + 0) (v7 + 1) M6) ∧ (¬ x5 = 0 → wl_X6_aboutStretch_47 Q n v2 v3 v4 (v5 + (M 70 (127 + v7))) (v6 + 1) (v7 + 1) M6))))
def wp_X6_aboutStretch (a0 : Int) (a1 : Int) (M : am_M) (Q : Int → am_M → Prop) : Prop := wp_X6_firstOf a0 M (fun x1 M2 => wp_X6_lastWith x1 M2 (fun x3 M4 => (am_rg a1) ∧ (¬ a1 = 4 → ∃ e47, wl_X6_aboutStretch_47 Q e47 a1 x1 x3 0 0 x1 M4) ∧ (¬ (¬ a1 = 4) → wp_X6_few x1 x3 (M4 70 4) M4 (fun M7 => (0 ≤ (x1 : Int) ∧ (x1 : Int) < 60) ∧ (Q (M7 76 x1) M7)))))
set_option maxRecDepth 20000 in
theorem tw_X6_aboutStretch_47 {Q : Int → am_M → Prop} {QX : am_X} : ∀ (n : Nat) (v2 : Int) (v3 : Int) (v4 : Int) (v5 : Int) (v6 : Int) (v7 : Int) (M : am_M), wl_X6_aboutStretch_47 Q n v2 v3 v4 v5 v6 v7 M → am_W (am_CC 7) dt_X6_aboutStretch 7 0 none (am_QI Q) QX (0, 47, [(0, .inr (.inl (some 69))), (2, .inl (v2)), (3, .inl (v3)), (4, .inl (v4)), (5, .inl (v5)), (6, .inl (v6)), (7, .inl (v7))], [], M)
  | 0, _, _, _, _, _, _, _, h => h.elim
  | n + 1, v2, v3, v4, v5, v6, v7, M, h => by
    refine am_Wrun 2 (ps := []) (pc' := 51) (lv' := [(0, .inr (.inl (some 69))), (2, .inl (v2)), (3, .inl (v3)), (4, .inl (v4)), (5, .inl (v5)), (6, .inl (v6)), (7, .inl (v7))]) (st' := [.inl (v4), .inl (v7)]) (M' := M) rfl trivial ?_
    obtain ⟨b0, b1, ht, hf⟩ := h
    refine am_Wbr (P := [am_rg v7, am_rg v4]) (c := v4 < v7) (t := 94) (f := 54) (st' := []) rfl rfl ⟨b0, b1, trivial⟩ rfl (fun q => ?_) (fun q => ?_)
    · have h := ht q
      refine am_Wrun 1 (ps := []) (pc' := 95) (lv' := [(0, .inr (.inl (some 69))), (2, .inl (v2)), (3, .inl (v3)), (4, .inl (v4)), (5, .inl (v5)), (6, .inl (v6)), (7, .inl (v7))]) (st' := [.inl (v2)]) (M' := M) rfl trivial ?_
      obtain ⟨b0, ht, hf⟩ := h
      refine am_Wbr (P := [am_rg v2]) (c := ¬ v2 = 0) (t := 102) (f := 98) (st' := []) rfl rfl ⟨b0, trivial⟩ rfl (fun q => ?_) (fun q => ?_)
      · have h := ht q
        refine am_Wrun 2 (ps := []) (pc' := 104) (lv' := [(0, .inr (.inl (some 69))), (2, .inl (v2)), (3, .inl (v3)), (4, .inl (v4)), (5, .inl (v5)), (6, .inl (v6)), (7, .inl (v7))]) (st' := [.inl (1), .inl (v2)]) (M' := M) rfl trivial ?_
        obtain ⟨b0, ht, hf⟩ := h
        refine am_Wbr (P := [am_rg v2, am_rg 1]) (c := ¬ v2 = 1) (t := 116) (f := 107) (st' := []) rfl rfl ⟨b0, (am_rgd rfl), trivial⟩ rfl (fun q => ?_) (fun q => ?_)
        · have h := ht q
          refine am_Wrun 2 (ps := []) (pc' := 118) (lv' := [(0, .inr (.inl (some 69))), (2, .inl (v2)), (3, .inl (v3)), (4, .inl (v4)), (5, .inl (v5)), (6, .inl (v6)), (7, .inl (v7))]) (st' := [.inl (2), .inl (v2)]) (M' := M) rfl trivial ?_
          obtain ⟨b0, ht, hf⟩ := h
          refine am_Wbr (P := [am_rg v2, am_rg 2]) (c := ¬ v2 = 2) (t := 126) (f := 121) (st' := []) rfl rfl ⟨b0, (am_rgd rfl), trivial⟩ rfl (fun q => ?_) (fun q => ?_)
          · have h := ht q
            refine am_Wrun 1 (ps := []) (pc' := 128) (lv' := [(0, .inr (.inl (some 69))), (2, .inl (v2)), (3, .inl (v3)), (4, .inl (v4)), (5, .inl (v5)), (6, .inl (v6)), (7, .inl (v7))]) (st' := [.inl (v6)]) (M' := M) rfl trivial ?_
            exact am_Wreti rfl rfl h
          · have h := hf q
            refine am_Wrun 2 (ps := []) (pc' := 128) (lv' := [(0, .inr (.inl (some 69))), (2, .inl (v2)), (3, .inl (v3)), (4, .inl (v4)), (5, .inl (v5)), (6, .inl (v6)), (7, .inl (v7))]) (st' := [.inl (v5)]) (M' := M) rfl trivial ?_
            exact am_Wreti rfl rfl h
        · have h := hf q
          refine am_Wrun 6 (ps := []) (pc' := 128) (lv' := [(0, .inr (.inl (some 69))), (2, .inl (v2)), (3, .inl (v3)), (4, .inl (v4)), (5, .inl (v5)), (6, .inl (v6)), (7, .inl (v7))]) (st' := [.inl ((v4 + 1) - v3)]) (M' := M) rfl trivial ?_
          exact am_Wreti rfl rfl h
      · have h := hf q
        refine am_Wrun 2 (ps := []) (pc' := 128) (lv' := [(0, .inr (.inl (some 69))), (2, .inl (v2)), (3, .inl (v3)), (4, .inl (v4)), (5, .inl (v5)), (6, .inl (v6)), (7, .inl (v7))]) (st' := [.inl (v3)]) (M' := M) rfl trivial ?_
        exact am_Wreti rfl rfl h
    · have h := hf q
      obtain ⟨c1_0, h⟩ := h
      refine am_Wrun 12 (ps := [-128 ≤ (127 : Int) ∧ (127 : Int) ≤ 127, 0 ≤ (127 + v7 : Int) ∧ (127 + v7 : Int) < 203]) (pc' := 74) (lv' := [(5, .inl (v5 + (M 70 (127 + v7)))), (0, .inr (.inl (some 69))), (2, .inl (v2)), (3, .inl (v3)), (4, .inl (v4)), (6, .inl (v6)), (7, .inl (v7))]) (st' := [.inl (v7), .inr (.inl (some 69)), .inl (v6)]) (M' := M) rfl ⟨⟨by decide, by decide⟩, c1_0, trivial⟩ ?_
      refine am_WcallV (y := 138) (n := 2) (a := 69) (f := 77) (as := [.inl (v7)]) (st' := [.inl (v6)]) rfl rfl rfl rfl rfl rfl rfl rfl rfl rfl (Nat.zero_le _) rfl (am_CC_le (Nat.le_of_ble_eq_true rfl) (tm_X6_isBroken h)) (fun r M6 q => ?_) (fun _ _ q => q.elim)
      obtain ⟨x5, rfl, h⟩ := q
      obtain ⟨b0, ht, hf⟩ := h
      refine am_Wbr (P := [am_rg x5]) (c := x5 = 0) (t := 84) (f := 80) (st' := [.inl (v6)]) rfl rfl ⟨b0, trivial⟩ rfl (fun q => ?_) (fun q => ?_)
      · have h := ht q
        refine am_Wrun 5 (ps := []) (pc' := 47) (lv' := [(7, .inl (v7 + 1)), (6, .inl (v6 + 0)), (5, .inl (v5 + (M 70 (127 + v7)))), (0, .inr (.inl (some 69))), (2, .inl (v2)), (3, .inl (v3)), (4, .inl (v4))]) (st' := []) (M' := M6) rfl trivial ?_
        refine am_W_sub [3, 4, 5, 6, 2, 1, 0] rfl ?_
        exact tw_X6_aboutStretch_47 n v2 v3 v4 (v5 + (M 70 (127 + v7))) (v6 + 0) (v7 + 1) M6 h
      · have h := hf q
        refine am_Wrun 6 (ps := []) (pc' := 47) (lv' := [(7, .inl (v7 + 1)), (6, .inl (v6 + 1)), (5, .inl (v5 + (M 70 (127 + v7)))), (0, .inr (.inl (some 69))), (2, .inl (v2)), (3, .inl (v3)), (4, .inl (v4))]) (st' := []) (M' := M6) rfl trivial ?_
        refine am_W_sub [3, 4, 5, 6, 2, 1, 0] rfl ?_
        exact tw_X6_aboutStretch_47 n v2 v3 v4 (v5 + (M 70 (127 + v7))) (v6 + 1) (v7 + 1) M6 h
set_option maxRecDepth 20000 in
theorem tm_X6_aboutStretch {a0 a1 : Int} {M : am_M} {Q : Int → am_M → Prop} (h : wp_X6_aboutStretch a0 a1 M Q) : am_CC 8 175 [.inr (.inl (some 69)), .inl (a0), .inl (a1)] M (am_QI Q) (fun _ _ => False) := by
  refine ⟨Nat.le_of_ble_eq_true rfl, ?_⟩
  show am_W (am_CC 7) dt_X6_aboutStretch 7 0 none (am_QI Q) (am_qx 175 (fun _ _ => False)) (0, 0, [(0, .inr (.inl (some 69))), (1, .inl (a0)), (2, .inl (a1))], [], M)
  refine am_Wrun 2 (ps := []) (pc' := 2) (lv' := [(0, .inr (.inl (some 69))), (1, .inl (a0)), (2, .inl (a1))]) (st' := [.inl (a0), .inr (.inl (some 69))]) (M' := M) rfl trivial ?_
  refine am_WcallV (y := 152) (n := 2) (a := 69) (f := 5) (as := [.inl (a0)]) (st' := []) rfl rfl rfl rfl rfl rfl rfl rfl rfl rfl (Nat.zero_le _) rfl (am_CC_le (Nat.le_of_ble_eq_true rfl) (tm_X6_firstOf h)) (fun r M2 q => ?_) (fun _ _ q => q.elim)
  obtain ⟨x1, rfl, h⟩ := q
  refine am_Wrun 3 (ps := []) (pc' := 8) (lv' := [(3, .inl (x1)), (0, .inr (.inl (some 69))), (1, .inl (a0)), (2, .inl (a1))]) (st' := [.inl (x1), .inr (.inl (some 69))]) (M' := M2) rfl trivial ?_
  refine am_WcallV (y := 145) (n := 2) (a := 69) (f := 11) (as := [.inl (x1)]) (st' := []) rfl rfl rfl rfl rfl rfl rfl rfl rfl rfl (Nat.zero_le _) rfl (am_CC_le (Nat.le_of_ble_eq_true rfl) (tm_X6_lastWith h)) (fun r M4 q => ?_) (fun _ _ q => q.elim)
  obtain ⟨x3, rfl, h⟩ := q
  refine am_Wrun 3 (ps := []) (pc' := 15) (lv' := [(4, .inl (x3)), (3, .inl (x1)), (0, .inr (.inl (some 69))), (1, .inl (a0)), (2, .inl (a1))]) (st' := [.inl (4), .inl (a1)]) (M' := M4) rfl trivial ?_
  obtain ⟨b0, ht, hf⟩ := h
  refine am_Wbr (P := [am_rg a1, am_rg 4]) (c := ¬ a1 = 4) (t := 38) (f := 18) (st' := []) rfl rfl ⟨b0, (am_rgd rfl), trivial⟩ rfl (fun q => ?_) (fun q => ?_)
  · have h := ht q
    refine am_Wrun 6 (ps := []) (pc' := 47) (lv' := [(7, .inl (x1)), (6, .inl (0)), (5, .inl (0)), (4, .inl (x3)), (3, .inl (x1)), (0, .inr (.inl (some 69))), (1, .inl (a0)), (2, .inl (a1))]) (st' := []) (M' := M4) rfl trivial ?_
    refine am_W_sub [5, 7, 4, 3, 2, 1, 0] rfl ?_
    obtain ⟨n47, h⟩ := h
    exact tw_X6_aboutStretch_47 n47 a1 x1 x3 0 0 x1 M4 h
  · have h := hf q
    refine am_Wrun 7 (ps := [0 ≤ (4 : Int) ∧ (4 : Int) < 203]) (pc' := 28) (lv' := [(4, .inl (x3)), (3, .inl (x1)), (0, .inr (.inl (some 69))), (1, .inl (a0)), (2, .inl (a1))]) (st' := [.inl (M4 70 4), .inl (x3), .inl (x1), .inr (.inl (some 69))]) (M' := M4) rfl ⟨⟨by decide, by decide⟩, trivial⟩ ?_
    refine am_WcallV (y := 149) (n := 4) (a := 69) (f := 31) (as := [.inl (x1), .inl (x3), .inl (M4 70 4)]) (st' := []) rfl rfl rfl rfl rfl rfl rfl rfl rfl rfl (Nat.zero_le _) rfl (am_CC_le (Nat.le_of_ble_eq_true rfl) (tm_X6_few h)) (fun r M7 q => ?_) (fun _ _ q => q.elim)
    obtain ⟨rfl, h⟩ := q
    obtain ⟨c0_0, h⟩ := h
    refine am_Wrun 4 (ps := [0 ≤ (x1 : Int) ∧ (x1 : Int) < 60]) (pc' := 37) (lv' := [(4, .inl (x3)), (3, .inl (x1)), (0, .inr (.inl (some 69))), (1, .inl (a0)), (2, .inl (a1))]) (st' := [.inl (M7 76 x1)]) (M' := M7) rfl ⟨c0_0, trivial⟩ ?_
    exact am_Wreti rfl rfl h
abbrev dt_X6_stretch : am_D := (tk_X6_stretch, 6, 3, some .int, tb_hn 174)
def wp_X6_stretch (a0 : Int) (a1 : Int) (M : am_M) (Q : Int → am_M → Prop) : Prop := wp_X6_stretches (am_up M 69 5 0) (fun x1 M2 => wp_X6_in a0 0 (x1 - 1) M2 (fun x3 M4 => (am_rg x3) ∧ (¬ x3 = 0 → wp_X6_in a1 0 4 M4 (fun x5 M6 => (am_rg x5) ∧ (x5 = 0 → wp_X6_fails 2 M6 (fun x7 M8 => Q x7 M8)) ∧ (¬ x5 = 0 → wp_X6_aboutStretch a0 a1 M6 (fun x9 M10 => Q x9 M10)))) ∧ (¬ (¬ x3 = 0) → wp_X6_fails 1 M4 (fun x11 M12 => Q x11 M12))))
set_option maxRecDepth 20000 in
theorem tm_X6_stretch {a0 a1 : Int} {M : am_M} {Q : Int → am_M → Prop} (h : wp_X6_stretch a0 a1 M Q) : am_CC 9 174 [.inr (.inl (some 69)), .inl (a0), .inl (a1)] M (am_QI Q) (fun _ _ => False) := by
  refine ⟨Nat.le_of_ble_eq_true rfl, ?_⟩
  show am_W (am_CC 8) dt_X6_stretch 8 0 none (am_QI Q) (am_qx 174 (fun _ _ => False)) (0, 0, [(0, .inr (.inl (some 69))), (1, .inl (a0)), (2, .inl (a1))], [], M)
  refine am_Wrun 6 (ps := []) (pc' := 8) (lv' := [(0, .inr (.inl (some 69))), (1, .inl (a0)), (2, .inl (a1))]) (st' := [.inr (.inl (some 69)), .inl (0), .inl (a0)]) (M' := (am_up M 69 5 0)) rfl trivial ?_
  refine am_WcallV (y := 151) (n := 1) (a := 69) (f := 11) (as := []) (st' := [.inl (0), .inl (a0)]) rfl rfl rfl rfl rfl rfl rfl rfl rfl rfl (Nat.zero_le _) rfl (am_CC_le (Nat.le_of_ble_eq_true rfl) (tm_X6_stretches h)) (fun r M2 q => ?_) (fun _ _ q => q.elim)
  obtain ⟨x1, rfl, h⟩ := q
  refine am_Wrun 2 (ps := []) (pc' := 13) (lv' := [(0, .inr (.inl (some 69))), (1, .inl (a0)), (2, .inl (a1))]) (st' := [.inl (x1 - 1), .inl (0), .inl (a0)]) (M' := M2) rfl trivial ?_
  refine am_WcallS (y := 112) (n := 3) (f := 16) (co := 0) (as := [.inl (a0), .inl (0), .inl (x1 - 1)]) (st' := []) rfl rfl rfl rfl rfl rfl rfl rfl rfl (Nat.zero_le _) rfl (am_CC_le (Nat.le_of_ble_eq_true rfl) (tm_X6_in h)) (fun r M4 q => ?_) (fun _ _ q => q.elim)
  obtain ⟨x3, rfl, h⟩ := q
  obtain ⟨b0, ht, hf⟩ := h
  refine am_Wbr (P := [am_rg x3]) (c := ¬ x3 = 0) (t := 25) (f := 19) (st' := []) rfl rfl ⟨b0, trivial⟩ rfl (fun q => ?_) (fun q => ?_)
  · have h := ht q
    refine am_Wrun 3 (ps := []) (pc' := 28) (lv' := [(0, .inr (.inl (some 69))), (1, .inl (a0)), (2, .inl (a1))]) (st' := [.inl (4), .inl (0), .inl (a1)]) (M' := M4) rfl trivial ?_
    refine am_WcallS (y := 112) (n := 3) (f := 31) (co := 0) (as := [.inl (a1), .inl (0), .inl (4)]) (st' := []) rfl rfl rfl rfl rfl rfl rfl rfl rfl (Nat.zero_le _) rfl (am_CC_le (Nat.le_of_ble_eq_true rfl) (tm_X6_in h)) (fun r M6 q => ?_) (fun _ _ q => q.elim)
    obtain ⟨x5, rfl, h⟩ := q
    obtain ⟨b0, ht, hf⟩ := h
    refine am_Wbr (P := [am_rg x5]) (c := x5 = 0) (t := 43) (f := 34) (st' := []) rfl rfl ⟨b0, trivial⟩ rfl (fun q => ?_) (fun q => ?_)
    · have h := ht q
      refine am_Wrun 2 (ps := []) (pc' := 45) (lv' := [(0, .inr (.inl (some 69))), (1, .inl (a0)), (2, .inl (a1))]) (st' := [.inl (2), .inr (.inl (some 69))]) (M' := M6) rfl trivial ?_
      refine am_WcallV (y := 113) (n := 2) (a := 69) (f := 48) (as := [.inl (2)]) (st' := []) rfl rfl rfl rfl rfl rfl rfl rfl rfl rfl (Nat.zero_le _) rfl (am_CC_le (Nat.le_of_ble_eq_true rfl) (tm_X6_fails h)) (fun r M8 q => ?_) (fun _ _ q => q.elim)
      obtain ⟨x7, rfl, h⟩ := q
      exact am_Wreti rfl rfl h
    · have h := hf q
      refine am_Wrun 3 (ps := []) (pc' := 37) (lv' := [(0, .inr (.inl (some 69))), (1, .inl (a0)), (2, .inl (a1))]) (st' := [.inl (a1), .inl (a0), .inr (.inl (some 69))]) (M' := M6) rfl trivial ?_
      refine am_WcallV (y := 175) (n := 3) (a := 69) (f := 40) (as := [.inl (a0), .inl (a1)]) (st' := []) rfl rfl rfl rfl rfl rfl rfl rfl rfl rfl (Nat.zero_le _) rfl (am_CC_le (Nat.le_of_ble_eq_true rfl) (tm_X6_aboutStretch h)) (fun r M10 q => ?_) (fun _ _ q => q.elim)
      obtain ⟨x9, rfl, h⟩ := q
      refine am_Wrun 1 (ps := []) (pc' := 48) (lv' := [(0, .inr (.inl (some 69))), (1, .inl (a0)), (2, .inl (a1))]) (st' := [.inl (x9)]) (M' := M10) rfl trivial ?_
      exact am_Wreti rfl rfl h
  · have h := hf q
    refine am_Wrun 2 (ps := []) (pc' := 21) (lv' := [(0, .inr (.inl (some 69))), (1, .inl (a0)), (2, .inl (a1))]) (st' := [.inl (1), .inr (.inl (some 69))]) (M' := M4) rfl trivial ?_
    refine am_WcallV (y := 113) (n := 2) (a := 69) (f := 24) (as := [.inl (1)]) (st' := []) rfl rfl rfl rfl rfl rfl rfl rfl rfl rfl (Nat.zero_le _) rfl (am_CC_le (Nat.le_of_ble_eq_true rfl) (tm_X6_fails h)) (fun r M12 q => ?_) (fun _ _ q => q.elim)
    obtain ⟨x11, rfl, h⟩ := q
    exact am_Wreti rfl rfl h
abbrev dt_X5_noteAt : am_D := (tk_X5_noteAt, 5, 3, some .int, tb_hn 62)
def wj_X5_noteAt_15 (Q : Int → am_M → Prop) (X : am_X) (M : am_M) : Prop := X 2 M
def wp_X5_noteAt (a0 : Int) (a1 : Int) (M : am_M) (Q : Int → am_M → Prop) (X : am_X) : Prop := (am_rg a0) ∧ (a0 < 0 → wj_X5_noteAt_15 Q X  M) ∧ (¬ a0 < 0 → (am_rg a0) ∧ (am_rg (M 1 8)) ∧ (a0 < (M 1 8) → wp_X5_refuseOutside a1 2 M (fun M1 => (am_rg a1) ∧ ((¬ a1 = 0 ∧ ¬ a1 = 1) → wp_X1_isTrue a0 M1 (fun x2 M3 => (am_rg x2) ∧ (x2 = 0 → Q 0 M3) ∧ (¬ x2 = 0 → Q 1 M3))) ∧ (a1 = 0 → (0 ≤ (a0 : Int) ∧ (a0 : Int) < 8) ∧ (Q (M1 7 a0) M1)) ∧ (a1 = 1 → (0 ≤ (a0 : Int) ∧ (a0 : Int) < 8) ∧ (Q (M1 8 a0) M1))) X) ∧ (¬ a0 < (M 1 8) → wj_X5_noteAt_15 Q X  M))
set_option maxRecDepth 20000 in
theorem tj_X5_noteAt_15 {Q : Int → am_M → Prop} {X : am_X} {QX : am_X} (hX : ∀ E M, X E M → QX E M) (M : am_M) (h : wj_X5_noteAt_15 Q X M) : am_W (am_CC 6) dt_X5_noteAt 6 0 none (am_QI Q) QX (0, 15, [], [], M) := by
  exact am_Wthr (is := 254) (ic := 256) (E := 2) rfl (Nat.le_of_ble_eq_true rfl) rfl rfl rfl rfl (Or.inl ⟨rfl, rfl, rfl⟩) (hX _ _ h)
set_option maxRecDepth 20000 in
theorem tm_X5_noteAt {a0 a1 : Int} {M : am_M} {Q : Int → am_M → Prop} {X : am_X} (h : wp_X5_noteAt a0 a1 M Q X) : am_CC 7 62 [.inr (.inl (some 0)), .inl (a0), .inl (a1)] M (am_QI Q) X := by
  refine ⟨Nat.le_of_ble_eq_true rfl, ?_⟩
  show am_W (am_CC 6) dt_X5_noteAt 6 0 none (am_QI Q) (am_qx 62 X) (0, 0, [(0, .inr (.inl (some 0))), (1, .inl (a0)), (2, .inl (a1))], [], M)
  have hX : ∀ E M, X E M → am_qx 62 X E M := fun E M q => ⟨⟨rfl, by decide⟩, q⟩
  refine am_Wrun 1 (ps := []) (pc' := 1) (lv' := [(0, .inr (.inl (some 0))), (1, .inl (a0)), (2, .inl (a1))]) (st' := [.inl (a0)]) (M' := M) rfl trivial ?_
  obtain ⟨b0, ht, hf⟩ := h
  refine am_Wbr (P := [am_rg a0]) (c := a0 < 0) (t := 15) (f := 4) (st' := []) rfl rfl ⟨b0, trivial⟩ rfl (fun q => ?_) (fun q => ?_)
  · have h := ht q
    refine am_W_sub [] rfl ?_
    exact tj_X5_noteAt_15 hX  M h
  · have h := hf q
    refine am_Wrun 4 (ps := []) (pc' := 12) (lv' := [(0, .inr (.inl (some 0))), (1, .inl (a0)), (2, .inl (a1))]) (st' := [.inl (M 1 8), .inl (a0)]) (M' := M) rfl trivial ?_
    obtain ⟨b0, b1, ht, hf⟩ := h
    refine am_Wbr (P := [am_rg a0, am_rg (M 1 8)]) (c := a0 < (M 1 8)) (t := 25) (f := 15) (st' := []) rfl rfl ⟨b0, b1, trivial⟩ rfl (fun q => ?_) (fun q => ?_)
    · have h := ht q
      refine am_Wrun 2 (ps := []) (pc' := 27) (lv' := [(0, .inr (.inl (some 0))), (1, .inl (a0)), (2, .inl (a1))]) (st' := [.inl (2), .inl (a1)]) (M' := M) rfl trivial ?_
      refine am_WcallS (y := 34) (n := 2) (f := 30) (co := 0) (as := [.inl (a1), .inl (2)]) (st' := []) rfl rfl rfl rfl rfl rfl rfl rfl rfl (Nat.zero_le _) rfl (am_CC_le (Nat.le_of_ble_eq_true rfl) (tm_X5_refuseOutside h)) (fun r M1 q => ?_) (fun E M q => hX _ _ q)
      obtain ⟨rfl, h⟩ := q
      refine am_Wrun 1 (ps := []) (pc' := 31) (lv' := [(0, .inr (.inl (some 0))), (1, .inl (a0)), (2, .inl (a1))]) (st' := [.inl (a1)]) (M' := M1) rfl trivial ?_
      obtain ⟨c0, hd, j0, j1⟩ := h
      by_cases q0 : a1 = 0
      · have h := j0 q0
        refine am_Wlsw (t := 56) rfl rfl c0 (by rw [q0]; rfl) ?_
        obtain ⟨c0_0, h⟩ := h
        refine am_Wrun 5 (ps := [0 ≤ (a0 : Int) ∧ (a0 : Int) < 8]) (pc' := 65) (lv' := [(0, .inr (.inl (some 0))), (1, .inl (a0)), (2, .inl (a1))]) (st' := [.inl (M1 7 a0)]) (M' := M1) rfl ⟨c0_0, trivial⟩ ?_
        exact am_Wreti rfl rfl h
      by_cases q1 : a1 = 1
      · have h := j1 q1
        refine am_Wlsw (t := 66) rfl rfl c0 (by rw [q1]; rfl) ?_
        obtain ⟨c0_0, h⟩ := h
        refine am_Wrun 5 (ps := [0 ≤ (a0 : Int) ∧ (a0 : Int) < 8]) (pc' := 75) (lv' := [(0, .inr (.inl (some 0))), (1, .inl (a0)), (2, .inl (a1))]) (st' := [.inl (M1 8 a0)]) (M' := M1) rfl ⟨c0_0, trivial⟩ ?_
        exact am_Wreti rfl rfl h
      have h := hd ⟨q0, q1⟩
      have r0 : ¬ (0 : Int) = a1 := fun z => q0 z.symm
      have r1 : ¬ (1 : Int) = a1 := fun z => q1 z.symm
      refine am_Wlsw (t := 76) rfl rfl c0 (by simp [Op.lookupswitch.offset, r0, r1]; rfl) ?_
      refine am_Wrun 3 (ps := []) (pc' := 81) (lv' := [(0, .inr (.inl (some 0))), (1, .inl (a0)), (2, .inl (a1))]) (st' := [.inl (a0), .inr (.inl (some 9))]) (M' := M1) rfl trivial ?_
      refine am_WcallV (y := 18) (n := 2) (a := 9) (f := 84) (as := [.inl (a0)]) (st' := []) rfl rfl rfl rfl rfl rfl rfl rfl rfl rfl (Nat.zero_le _) rfl (am_CC_le (Nat.le_of_ble_eq_true rfl) (tm_X1_isTrue h)) (fun r M3 q => ?_) (fun _ _ q => q.elim)
      obtain ⟨x2, rfl, h⟩ := q
      obtain ⟨b0, ht, hf⟩ := h
      refine am_Wbr (P := [am_rg x2]) (c := x2 = 0) (t := 91) (f := 87) (st' := []) rfl rfl ⟨b0, trivial⟩ rfl (fun q => ?_) (fun q => ?_)
      · have h := ht q
        refine am_Wrun 1 (ps := []) (pc' := 92) (lv' := [(0, .inr (.inl (some 0))), (1, .inl (a0)), (2, .inl (a1))]) (st' := [.inl (0)]) (M' := M3) rfl trivial ?_
        exact am_Wreti rfl rfl h
      · have h := hf q
        refine am_Wrun 2 (ps := []) (pc' := 92) (lv' := [(0, .inr (.inl (some 0))), (1, .inl (a0)), (2, .inl (a1))]) (st' := [.inl (1)]) (M' := M3) rfl trivial ?_
        exact am_Wreti rfl rfl h
    · have h := hf q
      refine am_W_sub [] rfl ?_
      exact tj_X5_noteAt_15 hX  M h
abbrev dt_L_noteAt : am_D := (tk_L_noteAt, 9, 5, some .int, tb_hn 214)
def wp_L_noteAt (a1 : Int) (a2 : Int) (M : am_M) (Q : Int → am_M → Prop) : Prop := wp_X5_noteAt a1 a2 M (fun x1 M2 => (am_rg x1) ∧ (Q 0 (am_up M2 80 0 x1))) (fun E M3 => (E = 2 ∧ Q 1 M3) ∨ (E = 0 ∧ Q 2 M3))
set_option maxRecDepth 20000 in
theorem tm_L_noteAt {a1 a2 : Int} {M : am_M} {Q : Int → am_M → Prop} (h : wp_L_noteAt a1 a2 M Q) : am_CC 8 214 [.inr (.inl (some 0)), .inl (a1), .inl (a2), .inr (.inl (some 80))] M (am_QI Q) (fun _ _ => False) := by
  refine ⟨Nat.le_of_ble_eq_true rfl, ?_⟩
  show am_W (am_CC 7) dt_L_noteAt 7 1 none (am_QI Q) (am_qx 214 (fun _ _ => False)) (0, 0, [(0, .inr (.inl (some 0))), (1, .inl (a1)), (2, .inl (a2)), (3, .inr (.inl (some 80)))], [], M)
  refine am_Wrun 5 (ps := []) (pc' := 5) (lv' := [(0, .inr (.inl (some 0))), (1, .inl (a1)), (2, .inl (a2)), (3, .inr (.inl (some 80)))]) (st' := [.inl (a2), .inl (a1), .inr (.inl (some 0)), .inl (0), .inr (.inl (some 80))]) (M' := M) rfl trivial ?_
  refine am_WcallV (y := 62) (n := 3) (a := 0) (f := 8) (as := [.inl (a1), .inl (a2)]) (st' := [.inl (0), .inr (.inl (some 80))]) rfl rfl rfl rfl rfl rfl rfl rfl rfl rfl (Nat.zero_le _) rfl (am_CC_le (Nat.le_of_ble_eq_true rfl) (tm_X5_noteAt h)) (fun r M2 q => ?_) (fun E M3 q => ?_)
  · obtain ⟨x1, rfl, h⟩ := q
    obtain ⟨c0_0, h⟩ := h
    refine am_Wrun 4 (ps := [am_rg x1, 0 ≤ (0 : Int) ∧ (0 : Int) < 1]) (pc' := 22) (lv' := [(0, .inr (.inl (some 0))), (1, .inl (a1)), (2, .inl (a2)), (3, .inr (.inl (some 80)))]) (st' := [.inl (0)]) (M' := (am_up M2 80 0 x1)) rfl ⟨c0_0, ⟨by decide, by decide⟩, trivial⟩ ?_
    exact am_Wreti rfl rfl h
  · rcases q with ⟨rfl, h⟩ | ⟨rfl, h⟩
    · show 0 + 1 ≤ 1 ∧ am_W (am_CC 7) dt_L_noteAt 7 1 none (am_QI Q) _ (0 + 1, 15, [(0, .inr (.inl (some 0))), (1, .inl (a1)), (2, .inl (a2)), (3, .inr (.inl (some 80)))], [], M3)
      refine ⟨Nat.le_refl _, ?_⟩
      refine am_Wrun 1 (ps := []) (pc' := 16) (lv' := [(0, .inr (.inl (some 0))), (1, .inl (a1)), (2, .inl (a2)), (3, .inr (.inl (some 80)))]) (st' := [.inl (1)]) (M' := M3) rfl trivial ?_
      exact am_Wreti rfl rfl h
    · show 0 + 1 ≤ 1 ∧ am_W (am_CC 7) dt_L_noteAt 7 1 none (am_QI Q) _ (0 + 1, 19, [(0, .inr (.inl (some 0))), (1, .inl (a1)), (2, .inl (a2)), (3, .inr (.inl (some 80)))], [], M3)
      refine ⟨Nat.le_refl _, ?_⟩
      refine am_Wrun 1 (ps := []) (pc' := 20) (lv' := [(0, .inr (.inl (some 0))), (1, .inl (a1)), (2, .inl (a2)), (3, .inr (.inl (some 80)))]) (st' := [.inl (2)]) (M' := M3) rfl trivial ?_
      exact am_Wreti rfl rfl h
abbrev dt_X6_aboutNote : am_D := (tk_X6_aboutNote, 6, 3, some .int, tb_hn 177)
def wp_X6_aboutNote (a0 : Int) (a1 : Int) (M : am_M) (Q : Int → am_M → Prop) : Prop := (am_rg a1) ∧ (¬ a1 = 2 → (0 ≤ ((187 + (2 * a0)) + a1 : Int) ∧ ((187 + (2 * a0)) + a1 : Int) < 203) ∧ (Q (M 70 ((187 + (2 * a0)) + a1)) M)) ∧ (¬ (¬ a1 = 2) → wp_X6_isTrueNote a0 M (fun x1 M2 => (am_rg x1) ∧ (x1 = 0 → Q 0 M2) ∧ (¬ x1 = 0 → Q 1 M2)))
set_option maxRecDepth 20000 in
theorem tm_X6_aboutNote {a0 a1 : Int} {M : am_M} {Q : Int → am_M → Prop} (h : wp_X6_aboutNote a0 a1 M Q) : am_CC 8 177 [.inr (.inl (some 69)), .inl (a0), .inl (a1)] M (am_QI Q) (fun _ _ => False) := by
  refine ⟨Nat.le_of_ble_eq_true rfl, ?_⟩
  show am_W (am_CC 7) dt_X6_aboutNote 7 0 none (am_QI Q) (am_qx 177 (fun _ _ => False)) (0, 0, [(0, .inr (.inl (some 69))), (1, .inl (a0)), (2, .inl (a1))], [], M)
  refine am_Wrun 2 (ps := []) (pc' := 2) (lv' := [(0, .inr (.inl (some 69))), (1, .inl (a0)), (2, .inl (a1))]) (st' := [.inl (2), .inl (a1)]) (M' := M) rfl trivial ?_
  obtain ⟨b0, ht, hf⟩ := h
  refine am_Wbr (P := [am_rg a1, am_rg 2]) (c := ¬ a1 = 2) (t := 21) (f := 5) (st' := []) rfl rfl ⟨b0, (am_rgd rfl), trivial⟩ rfl (fun q => ?_) (fun q => ?_)
  · have h := ht q
    obtain ⟨c1_0, h⟩ := h
    refine am_Wrun 10 (ps := [-32768 ≤ (187 : Int) ∧ (187 : Int) ≤ 32767, 0 ≤ ((187 + (2 * a0)) + a1 : Int) ∧ ((187 + (2 * a0)) + a1 : Int) < 203]) (pc' := 35) (lv' := [(0, .inr (.inl (some 69))), (1, .inl (a0)), (2, .inl (a1))]) (st' := [.inl (M 70 ((187 + (2 * a0)) + a1))]) (M' := M) rfl ⟨⟨by decide, by decide⟩, c1_0, trivial⟩ ?_
    exact am_Wreti rfl rfl h
  · have h := hf q
    refine am_Wrun 2 (ps := []) (pc' := 7) (lv' := [(0, .inr (.inl (some 69))), (1, .inl (a0)), (2, .inl (a1))]) (st' := [.inl (a0), .inr (.inl (some 69))]) (M' := M) rfl trivial ?_
    refine am_WcallV (y := 156) (n := 2) (a := 69) (f := 10) (as := [.inl (a0)]) (st' := []) rfl rfl rfl rfl rfl rfl rfl rfl rfl rfl (Nat.zero_le _) rfl (am_CC_le (Nat.le_of_ble_eq_true rfl) (tm_X6_isTrueNote h)) (fun r M2 q => ?_) (fun _ _ q => q.elim)
    obtain ⟨x1, rfl, h⟩ := q
    obtain ⟨b0, ht, hf⟩ := h
    refine am_Wbr (P := [am_rg x1]) (c := x1 = 0) (t := 17) (f := 13) (st' := []) rfl rfl ⟨b0, trivial⟩ rfl (fun q => ?_) (fun q => ?_)
    · have h := ht q
      refine am_Wrun 2 (ps := []) (pc' := 35) (lv' := [(0, .inr (.inl (some 69))), (1, .inl (a0)), (2, .inl (a1))]) (st' := [.inl (0)]) (M' := M2) rfl trivial ?_
      exact am_Wreti rfl rfl h
    · have h := hf q
      refine am_Wrun 2 (ps := []) (pc' := 35) (lv' := [(0, .inr (.inl (some 69))), (1, .inl (a0)), (2, .inl (a1))]) (st' := [.inl (1)]) (M' := M2) rfl trivial ?_
      exact am_Wreti rfl rfl h
abbrev dt_X6_noteAt : am_D := (tk_X6_noteAt, 6, 3, some .int, tb_hn 176)
def wp_X6_noteAt (a0 : Int) (a1 : Int) (M : am_M) (Q : Int → am_M → Prop) : Prop := wp_X6_in a0 0 (((am_up M 69 5 0) 70 1) - 1) (am_up M 69 5 0) (fun x1 M2 => (am_rg x1) ∧ (¬ x1 = 0 → wp_X6_in a1 0 2 M2 (fun x3 M4 => (am_rg x3) ∧ (x3 = 0 → wp_X6_fails 2 M4 (fun x5 M6 => Q x5 M6)) ∧ (¬ x3 = 0 → wp_X6_aboutNote a0 a1 M4 (fun x7 M8 => Q x7 M8)))) ∧ (¬ (¬ x1 = 0) → wp_X6_fails 1 M2 (fun x9 M10 => Q x9 M10)))
set_option maxRecDepth 20000 in
theorem tm_X6_noteAt {a0 a1 : Int} {M : am_M} {Q : Int → am_M → Prop} (h : wp_X6_noteAt a0 a1 M Q) : am_CC 9 176 [.inr (.inl (some 69)), .inl (a0), .inl (a1)] M (am_QI Q) (fun _ _ => False) := by
  refine ⟨Nat.le_of_ble_eq_true rfl, ?_⟩
  show am_W (am_CC 8) dt_X6_noteAt 8 0 none (am_QI Q) (am_qx 176 (fun _ _ => False)) (0, 0, [(0, .inr (.inl (some 69))), (1, .inl (a0)), (2, .inl (a1))], [], M)
  refine am_Wrun 11 (ps := [0 ≤ (1 : Int) ∧ (1 : Int) < 203]) (pc' := 15) (lv' := [(0, .inr (.inl (some 69))), (1, .inl (a0)), (2, .inl (a1))]) (st' := [.inl (((am_up M 69 5 0) 70 1) - 1), .inl (0), .inl (a0)]) (M' := (am_up M 69 5 0)) rfl ⟨⟨by decide, by decide⟩, trivial⟩ ?_
  refine am_WcallS (y := 112) (n := 3) (f := 18) (co := 0) (as := [.inl (a0), .inl (0), .inl (((am_up M 69 5 0) 70 1) - 1)]) (st' := []) rfl rfl rfl rfl rfl rfl rfl rfl rfl (Nat.zero_le _) rfl (am_CC_le (Nat.le_of_ble_eq_true rfl) (tm_X6_in h)) (fun r M2 q => ?_) (fun _ _ q => q.elim)
  obtain ⟨x1, rfl, h⟩ := q
  obtain ⟨b0, ht, hf⟩ := h
  refine am_Wbr (P := [am_rg x1]) (c := ¬ x1 = 0) (t := 27) (f := 21) (st' := []) rfl rfl ⟨b0, trivial⟩ rfl (fun q => ?_) (fun q => ?_)
  · have h := ht q
    refine am_Wrun 3 (ps := []) (pc' := 30) (lv' := [(0, .inr (.inl (some 69))), (1, .inl (a0)), (2, .inl (a1))]) (st' := [.inl (2), .inl (0), .inl (a1)]) (M' := M2) rfl trivial ?_
    refine am_WcallS (y := 112) (n := 3) (f := 33) (co := 0) (as := [.inl (a1), .inl (0), .inl (2)]) (st' := []) rfl rfl rfl rfl rfl rfl rfl rfl rfl (Nat.zero_le _) rfl (am_CC_le (Nat.le_of_ble_eq_true rfl) (tm_X6_in h)) (fun r M4 q => ?_) (fun _ _ q => q.elim)
    obtain ⟨x3, rfl, h⟩ := q
    obtain ⟨b0, ht, hf⟩ := h
    refine am_Wbr (P := [am_rg x3]) (c := x3 = 0) (t := 45) (f := 36) (st' := []) rfl rfl ⟨b0, trivial⟩ rfl (fun q => ?_) (fun q => ?_)
    · have h := ht q
      refine am_Wrun 2 (ps := []) (pc' := 47) (lv' := [(0, .inr (.inl (some 69))), (1, .inl (a0)), (2, .inl (a1))]) (st' := [.inl (2), .inr (.inl (some 69))]) (M' := M4) rfl trivial ?_
      refine am_WcallV (y := 113) (n := 2) (a := 69) (f := 50) (as := [.inl (2)]) (st' := []) rfl rfl rfl rfl rfl rfl rfl rfl rfl rfl (Nat.zero_le _) rfl (am_CC_le (Nat.le_of_ble_eq_true rfl) (tm_X6_fails h)) (fun r M6 q => ?_) (fun _ _ q => q.elim)
      obtain ⟨x5, rfl, h⟩ := q
      exact am_Wreti rfl rfl h
    · have h := hf q
      refine am_Wrun 3 (ps := []) (pc' := 39) (lv' := [(0, .inr (.inl (some 69))), (1, .inl (a0)), (2, .inl (a1))]) (st' := [.inl (a1), .inl (a0), .inr (.inl (some 69))]) (M' := M4) rfl trivial ?_
      refine am_WcallV (y := 177) (n := 3) (a := 69) (f := 42) (as := [.inl (a0), .inl (a1)]) (st' := []) rfl rfl rfl rfl rfl rfl rfl rfl rfl rfl (Nat.zero_le _) rfl (am_CC_le (Nat.le_of_ble_eq_true rfl) (tm_X6_aboutNote h)) (fun r M8 q => ?_) (fun _ _ q => q.elim)
      obtain ⟨x7, rfl, h⟩ := q
      refine am_Wrun 1 (ps := []) (pc' := 50) (lv' := [(0, .inr (.inl (some 69))), (1, .inl (a0)), (2, .inl (a1))]) (st' := [.inl (x7)]) (M' := M8) rfl trivial ?_
      exact am_Wreti rfl rfl h
  · have h := hf q
    refine am_Wrun 2 (ps := []) (pc' := 23) (lv' := [(0, .inr (.inl (some 69))), (1, .inl (a0)), (2, .inl (a1))]) (st' := [.inl (1), .inr (.inl (some 69))]) (M' := M2) rfl trivial ?_
    refine am_WcallV (y := 113) (n := 2) (a := 69) (f := 26) (as := [.inl (1)]) (st' := []) rfl rfl rfl rfl rfl rfl rfl rfl rfl rfl (Nat.zero_le _) rfl (am_CC_le (Nat.le_of_ble_eq_true rfl) (tm_X6_fails h)) (fun r M10 q => ?_) (fun _ _ q => q.elim)
    obtain ⟨x9, rfl, h⟩ := q
    exact am_Wreti rfl rfl h
abbrev dt_X5_trueNotes : am_D := (tk_X5_trueNotes, 5, 3, some .int, tb_hn 37)
def wl_X5_trueNotes_4 (Q : Int → am_M → Prop) : Nat → Int → Int → am_M → Prop
  | 0, _, _, _ => False
  | n + 1, v1, v2, M => (am_rg v2) ∧ (am_rg (M 1 8)) ∧ ((M 1 8) ≤ v2 → Q v1 M) ∧ (¬ (M 1 8) ≤ v2 → wp_X1_isTrue v2 M (fun x1 M2 => (am_rg x1) ∧ (x1 = 0 → wl_X5_trueNotes_4 Q n v1 (v2 + 1) M2) ∧ (¬ x1 = 0 → wl_X5_trueNotes_4 Q n (v1 + 1) (v2 + 1) M2)))
def wp_X5_trueNotes (M : am_M) (Q : Int → am_M → Prop) : Prop := ∃ e4, wl_X5_trueNotes_4 Q e4 0 0 M
set_option maxRecDepth 20000 in
theorem tw_X5_trueNotes_4 {Q : Int → am_M → Prop} {QX : am_X} : ∀ (n : Nat) (v1 : Int) (v2 : Int) (M : am_M), wl_X5_trueNotes_4 Q n v1 v2 M → am_W (am_CC 4) dt_X5_trueNotes 4 0 none (am_QI Q) QX (0, 4, [(0, .inr (.inl (some 0))), (1, .inl (v1)), (2, .inl (v2))], [], M)
  | 0, _, _, _, h => h.elim
  | n + 1, v1, v2, M, h => by
    refine am_Wrun 4 (ps := []) (pc' := 12) (lv' := [(0, .inr (.inl (some 0))), (1, .inl (v1)), (2, .inl (v2))]) (st' := [.inl (M 1 8), .inl (v2)]) (M' := M) rfl trivial ?_
    obtain ⟨b0, b1, ht, hf⟩ := h
    refine am_Wbr (P := [am_rg v2, am_rg (M 1 8)]) (c := (M 1 8) ≤ v2) (t := 35) (f := 15) (st' := []) rfl rfl ⟨b0, b1, trivial⟩ rfl (fun q => ?_) (fun q => ?_)
    · have h := ht q
      refine am_Wrun 1 (ps := []) (pc' := 36) (lv' := [(0, .inr (.inl (some 0))), (1, .inl (v1)), (2, .inl (v2))]) (st' := [.inl (v1)]) (M' := M) rfl trivial ?_
      exact am_Wreti rfl rfl h
    · have h := hf q
      refine am_Wrun 3 (ps := []) (pc' := 20) (lv' := [(0, .inr (.inl (some 0))), (1, .inl (v1)), (2, .inl (v2))]) (st' := [.inl (v2), .inr (.inl (some 9))]) (M' := M) rfl trivial ?_
      refine am_WcallV (y := 18) (n := 2) (a := 9) (f := 23) (as := [.inl (v2)]) (st' := []) rfl rfl rfl rfl rfl rfl rfl rfl rfl rfl (Nat.zero_le _) rfl (am_CC_le (Nat.le_of_ble_eq_true rfl) (tm_X1_isTrue h)) (fun r M2 q => ?_) (fun _ _ q => q.elim)
      obtain ⟨x1, rfl, h⟩ := q
      obtain ⟨b0, ht, hf⟩ := h
      refine am_Wbr (P := [am_rg x1]) (c := x1 = 0) (t := 29) (f := 26) (st' := []) rfl rfl ⟨b0, trivial⟩ rfl (fun q => ?_) (fun q => ?_)
      · have h := ht q
        refine am_Wrun 2 (ps := []) (pc' := 4) (lv' := [(2, .inl (v2 + 1)), (0, .inr (.inl (some 0))), (1, .inl (v1))]) (st' := []) (M' := M2) rfl trivial ?_
        refine am_W_sub [1, 2, 0] rfl ?_
        exact tw_X5_trueNotes_4 n v1 (v2 + 1) M2 h
      · have h := hf q
        refine am_Wrun 3 (ps := []) (pc' := 4) (lv' := [(2, .inl (v2 + 1)), (1, .inl (v1 + 1)), (0, .inr (.inl (some 0)))]) (st' := []) (M' := M2) rfl trivial ?_
        refine am_W_sub [2, 1, 0] rfl ?_
        exact tw_X5_trueNotes_4 n (v1 + 1) (v2 + 1) M2 h
set_option maxRecDepth 20000 in
theorem tm_X5_trueNotes {M : am_M} {Q : Int → am_M → Prop} (h : wp_X5_trueNotes M Q) : am_CC 5 37 [.inr (.inl (some 0))] M (am_QI Q) (fun _ _ => False) := by
  refine ⟨Nat.le_of_ble_eq_true rfl, ?_⟩
  show am_W (am_CC 4) dt_X5_trueNotes 4 0 none (am_QI Q) (am_qx 37 (fun _ _ => False)) (0, 0, [(0, .inr (.inl (some 0)))], [], M)
  refine am_Wrun 4 (ps := []) (pc' := 4) (lv' := [(2, .inl (0)), (1, .inl (0)), (0, .inr (.inl (some 0)))]) (st' := []) (M' := M) rfl trivial ?_
  refine am_W_sub [2, 1, 0] rfl ?_
  obtain ⟨n4, h⟩ := h
  exact tw_X5_trueNotes_4 n4 0 0 M h
abbrev dt_X5_greatestError : am_D := (tk_X5_greatestError, 5, 3, some .int, tb_hn 38)
def wl_X5_greatestError_4 (Q : Int → am_M → Prop) : Nat → Int → Int → am_M → Prop
  | 0, _, _, _ => False
  | n + 1, v1, v2, M => (am_rg v2) ∧ (am_rg (M 1 7)) ∧ ((M 1 7) ≤ v2 → Q v1 M) ∧ (¬ (M 1 7) ≤ v2 → wp_X2_isKept v2 M (fun x1 M2 => (am_rg x1) ∧ (¬ x1 = 0 → wl_X5_greatestError_4 Q n v1 (v2 + 1) M2) ∧ (¬ (¬ x1 = 0) → wp_X1_findError v2 M2 (fun x3 M4 => (am_rg x3) ∧ (x3 = 0 → wl_X5_greatestError_4 Q n v1 (v2 + 1) M4) ∧ (¬ x3 = 0 → wp_X5_roundedUp (M4 9 1) (M4 9 2) M4 (fun x5 M6 => (am_rg v1) ∧ (am_rg x5) ∧ (wl_X5_greatestError_4 Q n (if v1 < x5 then x5 else v1) (v2 + 1) M6)))))))
def wp_X5_greatestError (M : am_M) (Q : Int → am_M → Prop) : Prop := ∃ e4, wl_X5_greatestError_4 Q e4 0 0 M
set_option maxRecDepth 20000 in
theorem tw_X5_greatestError_4 {Q : Int → am_M → Prop} {QX : am_X} : ∀ (n : Nat) (v1 : Int) (v2 : Int) (M : am_M), wl_X5_greatestError_4 Q n v1 v2 M → am_W (am_CC 3) dt_X5_greatestError 3 0 none (am_QI Q) QX (0, 4, [(0, .inr (.inl (some 0))), (1, .inl (v1)), (2, .inl (v2))], [], M)
  | 0, _, _, _, h => h.elim
  | n + 1, v1, v2, M, h => by
    refine am_Wrun 4 (ps := []) (pc' := 12) (lv' := [(0, .inr (.inl (some 0))), (1, .inl (v1)), (2, .inl (v2))]) (st' := [.inl (M 1 7), .inl (v2)]) (M' := M) rfl trivial ?_
    obtain ⟨b0, b1, ht, hf⟩ := h
    refine am_Wbr (P := [am_rg v2, am_rg (M 1 7)]) (c := (M 1 7) ≤ v2) (t := 65) (f := 15) (st' := []) rfl rfl ⟨b0, b1, trivial⟩ rfl (fun q => ?_) (fun q => ?_)
    · have h := ht q
      refine am_Wrun 1 (ps := []) (pc' := 66) (lv' := [(0, .inr (.inl (some 0))), (1, .inl (v1)), (2, .inl (v2))]) (st' := [.inl (v1)]) (M' := M) rfl trivial ?_
      exact am_Wreti rfl rfl h
    · have h := hf q
      refine am_Wrun 3 (ps := []) (pc' := 20) (lv' := [(0, .inr (.inl (some 0))), (1, .inl (v1)), (2, .inl (v2))]) (st' := [.inl (v2), .inr (.inl (some 1))]) (M' := M) rfl trivial ?_
      refine am_WcallV (y := 8) (n := 2) (a := 1) (f := 23) (as := [.inl (v2)]) (st' := []) rfl rfl rfl rfl rfl rfl rfl rfl rfl rfl (Nat.zero_le _) rfl (am_CC_le (Nat.le_of_ble_eq_true rfl) (tm_X2_isKept h)) (fun r M2 q => ?_) (fun _ _ q => q.elim)
      obtain ⟨x1, rfl, h⟩ := q
      obtain ⟨b0, ht, hf⟩ := h
      refine am_Wbr (P := [am_rg x1]) (c := ¬ x1 = 0) (t := 59) (f := 26) (st' := []) rfl rfl ⟨b0, trivial⟩ rfl (fun q => ?_) (fun q => ?_)
      · have h := ht q
        refine am_Wrun 2 (ps := []) (pc' := 4) (lv' := [(2, .inl (v2 + 1)), (0, .inr (.inl (some 0))), (1, .inl (v1))]) (st' := []) (M' := M2) rfl trivial ?_
        refine am_W_sub [1, 2, 0] rfl ?_
        exact tw_X5_greatestError_4 n v1 (v2 + 1) M2 h
      · have h := hf q
        refine am_Wrun 3 (ps := []) (pc' := 31) (lv' := [(0, .inr (.inl (some 0))), (1, .inl (v1)), (2, .inl (v2))]) (st' := [.inl (v2), .inr (.inl (some 9))]) (M' := M2) rfl trivial ?_
        refine am_WcallV (y := 39) (n := 2) (a := 9) (f := 34) (as := [.inl (v2)]) (st' := []) rfl rfl rfl rfl rfl rfl rfl rfl rfl rfl (Nat.zero_le _) rfl (am_CC_le (Nat.le_of_ble_eq_true rfl) (tm_X1_findError h)) (fun r M4 q => ?_) (fun _ _ q => q.elim)
        obtain ⟨x3, rfl, h⟩ := q
        obtain ⟨b0, ht, hf⟩ := h
        refine am_Wbr (P := [am_rg x3]) (c := x3 = 0) (t := 59) (f := 37) (st' := []) rfl rfl ⟨b0, trivial⟩ rfl (fun q => ?_) (fun q => ?_)
        · have h := ht q
          refine am_Wrun 2 (ps := []) (pc' := 4) (lv' := [(2, .inl (v2 + 1)), (0, .inr (.inl (some 0))), (1, .inl (v1))]) (st' := []) (M' := M4) rfl trivial ?_
          refine am_W_sub [1, 2, 0] rfl ?_
          exact tw_X5_greatestError_4 n v1 (v2 + 1) M4 h
        · have h := hf q
          refine am_Wrun 7 (ps := []) (pc' := 52) (lv' := [(0, .inr (.inl (some 0))), (1, .inl (v1)), (2, .inl (v2))]) (st' := [.inl (M4 9 2), .inl (M4 9 1), .inl (v1)]) (M' := M4) rfl trivial ?_
          refine am_WcallS (y := 40) (n := 2) (f := 55) (co := 0) (as := [.inl (M4 9 1), .inl (M4 9 2)]) (st' := [.inl (v1)]) rfl rfl rfl rfl rfl rfl rfl rfl rfl (Nat.zero_le _) rfl (am_CC_le (Nat.le_of_ble_eq_true rfl) (tm_X5_roundedUp h)) (fun r M6 q => ?_) (fun _ _ q => q.elim)
          obtain ⟨x5, rfl, h⟩ := q
          obtain ⟨c0_0, c0_1, h⟩ := h
          refine am_Wrun 4 (ps := [am_rg v1 ∧ am_rg x5 ∧ am_cs [] ≤ 8]) (pc' := 4) (lv' := [(2, .inl (v2 + 1)), (1, .inl (if v1 < x5 then x5 else v1)), (0, .inr (.inl (some 0)))]) (st' := []) (M' := M6) rfl ⟨⟨c0_0, c0_1, (by decide)⟩, trivial⟩ ?_
          refine am_W_sub [2, 1, 0] rfl ?_
          exact tw_X5_greatestError_4 n (if v1 < x5 then x5 else v1) (v2 + 1) M6 h
set_option maxRecDepth 20000 in
theorem tm_X5_greatestError {M : am_M} {Q : Int → am_M → Prop} (h : wp_X5_greatestError M Q) : am_CC 4 38 [.inr (.inl (some 0))] M (am_QI Q) (fun _ _ => False) := by
  refine ⟨Nat.le_of_ble_eq_true rfl, ?_⟩
  show am_W (am_CC 3) dt_X5_greatestError 3 0 none (am_QI Q) (am_qx 38 (fun _ _ => False)) (0, 0, [(0, .inr (.inl (some 0)))], [], M)
  refine am_Wrun 4 (ps := []) (pc' := 4) (lv' := [(2, .inl (0)), (1, .inl (0)), (0, .inr (.inl (some 0)))]) (st' := []) (M' := M) rfl trivial ?_
  refine am_W_sub [2, 1, 0] rfl ?_
  obtain ⟨n4, h⟩ := h
  exact tw_X5_greatestError_4 n4 0 0 M h
abbrev dt_X5_longestStep : am_D := (tk_X5_longestStep, 5, 4, some .int, tb_hn 41)
def wl_X5_longestStep_7 (Q : Int → am_M → Prop) : Nat → Int → Int → Int → am_M → Prop
  | 0, _, _, _, _ => False
  | n + 1, v1, v2, v3, M => (am_rg v3) ∧ (am_rg (M 1 7)) ∧ ((M 1 7) ≤ v3 → Q v1 M) ∧ (¬ (M 1 7) ≤ v3 → wp_X2_isKept v3 M (fun x1 M2 => (am_rg x1) ∧ (x1 = 0 → wl_X5_longestStep_7 Q n v1 v2 (v3 + 1) M2) ∧ (¬ x1 = 0 → wp_X2_sameStretch v2 v3 M2 (fun x3 M4 => (am_rg x3) ∧ (x3 = 0 → wl_X5_longestStep_7 Q n v1 v3 (v3 + 1) M4) ∧ (¬ x3 = 0 → (0 ≤ (v3 : Int) ∧ (v3 : Int) < 60) ∧ (0 ≤ (v2 : Int) ∧ (v2 : Int) < 60) ∧ (am_rg v1) ∧ (am_rg ((M4 2 v3) - (M4 2 v2))) ∧ (wl_X5_longestStep_7 Q n (if v1 < ((M4 2 v3) - (M4 2 v2)) then ((M4 2 v3) - (M4 2 v2)) else v1) v3 (v3 + 1) M4))))))
def wp_X5_longestStep (M : am_M) (Q : Int → am_M → Prop) : Prop := ∃ e7, wl_X5_longestStep_7 Q e7 0 (-1000000) 0 M
set_option maxRecDepth 20000 in
theorem tw_X5_longestStep_7 {Q : Int → am_M → Prop} {QX : am_X} : ∀ (n : Nat) (v1 : Int) (v2 : Int) (v3 : Int) (M : am_M), wl_X5_longestStep_7 Q n v1 v2 v3 M → am_W (am_CC 2) dt_X5_longestStep 2 0 none (am_QI Q) QX (0, 7, [(0, .inr (.inl (some 0))), (1, .inl (v1)), (2, .inl (v2)), (3, .inl (v3))], [], M)
  | 0, _, _, _, _, h => h.elim
  | n + 1, v1, v2, v3, M, h => by
    refine am_Wrun 4 (ps := []) (pc' := 15) (lv' := [(0, .inr (.inl (some 0))), (1, .inl (v1)), (2, .inl (v2)), (3, .inl (v3))]) (st' := [.inl (M 1 7), .inl (v3)]) (M' := M) rfl trivial ?_
    obtain ⟨b0, b1, ht, hf⟩ := h
    refine am_Wbr (P := [am_rg v3, am_rg (M 1 7)]) (c := (M 1 7) ≤ v3) (t := 73) (f := 18) (st' := []) rfl rfl ⟨b0, b1, trivial⟩ rfl (fun q => ?_) (fun q => ?_)
    · have h := ht q
      refine am_Wrun 1 (ps := []) (pc' := 74) (lv' := [(0, .inr (.inl (some 0))), (1, .inl (v1)), (2, .inl (v2)), (3, .inl (v3))]) (st' := [.inl (v1)]) (M' := M) rfl trivial ?_
      exact am_Wreti rfl rfl h
    · have h := hf q
      refine am_Wrun 3 (ps := []) (pc' := 23) (lv' := [(0, .inr (.inl (some 0))), (1, .inl (v1)), (2, .inl (v2)), (3, .inl (v3))]) (st' := [.inl (v3), .inr (.inl (some 1))]) (M' := M) rfl trivial ?_
      refine am_WcallV (y := 8) (n := 2) (a := 1) (f := 26) (as := [.inl (v3)]) (st' := []) rfl rfl rfl rfl rfl rfl rfl rfl rfl rfl (Nat.zero_le _) rfl (am_CC_le (Nat.le_of_ble_eq_true rfl) (tm_X2_isKept h)) (fun r M2 q => ?_) (fun _ _ q => q.elim)
      obtain ⟨x1, rfl, h⟩ := q
      obtain ⟨b0, ht, hf⟩ := h
      refine am_Wbr (P := [am_rg x1]) (c := x1 = 0) (t := 67) (f := 29) (st' := []) rfl rfl ⟨b0, trivial⟩ rfl (fun q => ?_) (fun q => ?_)
      · have h := ht q
        refine am_Wrun 2 (ps := []) (pc' := 7) (lv' := [(3, .inl (v3 + 1)), (0, .inr (.inl (some 0))), (1, .inl (v1)), (2, .inl (v2))]) (st' := []) (M' := M2) rfl trivial ?_
        refine am_W_sub [1, 2, 3, 0] rfl ?_
        exact tw_X5_longestStep_7 n v1 v2 (v3 + 1) M2 h
      · have h := hf q
        refine am_Wrun 4 (ps := []) (pc' := 35) (lv' := [(0, .inr (.inl (some 0))), (1, .inl (v1)), (2, .inl (v2)), (3, .inl (v3))]) (st' := [.inl (v3), .inl (v2), .inr (.inl (some 1))]) (M' := M2) rfl trivial ?_
        refine am_WcallV (y := 12) (n := 3) (a := 1) (f := 38) (as := [.inl (v2), .inl (v3)]) (st' := []) rfl rfl rfl rfl rfl rfl rfl rfl rfl rfl (Nat.zero_le _) rfl (am_CC_le (Nat.le_of_ble_eq_true rfl) (tm_X2_sameStretch h)) (fun r M4 q => ?_) (fun _ _ q => q.elim)
        obtain ⟨x3, rfl, h⟩ := q
        obtain ⟨b0, ht, hf⟩ := h
        refine am_Wbr (P := [am_rg x3]) (c := x3 = 0) (t := 65) (f := 41) (st' := []) rfl rfl ⟨b0, trivial⟩ rfl (fun q => ?_) (fun q => ?_)
        · have h := ht q
          refine am_Wrun 4 (ps := []) (pc' := 7) (lv' := [(3, .inl (v3 + 1)), (2, .inl (v3)), (0, .inr (.inl (some 0))), (1, .inl (v1))]) (st' := []) (M' := M4) rfl trivial ?_
          refine am_W_sub [2, 3, 1, 0] rfl ?_
          exact tw_X5_longestStep_7 n v1 v3 (v3 + 1) M4 h
        · have h := hf q
          obtain ⟨c0_0, c1_0, c2_0, c2_1, h⟩ := h
          refine am_Wrun 18 (ps := [0 ≤ (v3 : Int) ∧ (v3 : Int) < 60, 0 ≤ (v2 : Int) ∧ (v2 : Int) < 60, am_rg v1 ∧ am_rg ((M4 2 v3) - (M4 2 v2)) ∧ am_cs [] ≤ 8]) (pc' := 7) (lv' := [(3, .inl (v3 + 1)), (2, .inl (v3)), (1, .inl (if v1 < ((M4 2 v3) - (M4 2 v2)) then ((M4 2 v3) - (M4 2 v2)) else v1)), (0, .inr (.inl (some 0)))]) (st' := []) (M' := M4) rfl ⟨c0_0, c1_0, ⟨c2_0, c2_1, (by decide)⟩, trivial⟩ ?_
          refine am_W_sub [3, 2, 1, 0] rfl ?_
          exact tw_X5_longestStep_7 n (if v1 < ((M4 2 v3) - (M4 2 v2)) then ((M4 2 v3) - (M4 2 v2)) else v1) v3 (v3 + 1) M4 h
set_option maxRecDepth 20000 in
theorem tm_X5_longestStep {M : am_M} {Q : Int → am_M → Prop} (h : wp_X5_longestStep M Q) : am_CC 3 41 [.inr (.inl (some 0))] M (am_QI Q) (fun _ _ => False) := by
  refine ⟨Nat.le_of_ble_eq_true rfl, ?_⟩
  show am_W (am_CC 2) dt_X5_longestStep 2 0 none (am_QI Q) (am_qx 41 (fun _ _ => False)) (0, 0, [(0, .inr (.inl (some 0)))], [], M)
  refine am_Wrun 6 (ps := []) (pc' := 7) (lv' := [(3, .inl (0)), (2, .inl ((-1000000))), (1, .inl (0)), (0, .inr (.inl (some 0)))]) (st' := []) (M' := M) rfl trivial ?_
  refine am_W_sub [3, 2, 1, 0] rfl ?_
  obtain ⟨n7, h⟩ := h
  exact tw_X5_longestStep_7 n7 0 (-1000000) 0 M h
abbrev dt_X5_count : am_D := (tk_X5_count, 5, 2, some .int, tb_hn 33)
def wp_X5_count (a0 : Int) (M : am_M) (Q : Int → am_M → Prop) (X : am_X) : Prop := wp_X5_refuseOutside a0 10 M (fun M1 => (am_rg a0) ∧ ((a0 < 0 ∨ 9 < a0) → Q (M1 14 2) M1) ∧ (a0 = 0 → Q (M1 1 7) M1) ∧ (a0 = 1 → wp_X2_keptPoints M1 (fun x2 M3 => Q x2 M3)) ∧ (a0 = 2 → wp_X5_brokenAmong 0 (M1 1 7) M1 (fun x4 M5 => Q x4 M5)) ∧ (a0 = 3 → wp_X2_stretchCount M1 (fun x6 M7 => Q x6 M7)) ∧ (a0 = 4 → Q (M1 1 8) M1) ∧ (a0 = 5 → wp_X5_trueNotes M1 (fun x8 M9 => Q x8 M9)) ∧ (a0 = 6 → wp_X5_greatestError M1 (fun x10 M11 => Q x10 M11)) ∧ (a0 = 7 → Q (M1 1 9) M1) ∧ (a0 = 8 → Q (M1 1 10) M1) ∧ (a0 = 9 → wp_X5_longestStep M1 (fun x12 M13 => Q x12 M13))) X
set_option maxRecDepth 20000 in
theorem tm_X5_count {a0 : Int} {M : am_M} {Q : Int → am_M → Prop} {X : am_X} (h : wp_X5_count a0 M Q X) : am_CC 7 33 [.inr (.inl (some 0)), .inl (a0)] M (am_QI Q) X := by
  refine ⟨Nat.le_of_ble_eq_true rfl, ?_⟩
  show am_W (am_CC 6) dt_X5_count 6 0 none (am_QI Q) (am_qx 33 X) (0, 0, [(0, .inr (.inl (some 0))), (1, .inl (a0))], [], M)
  have hX : ∀ E M, X E M → am_qx 33 X E M := fun E M q => ⟨⟨rfl, by decide⟩, q⟩
  refine am_Wrun 2 (ps := [-128 ≤ (10 : Int) ∧ (10 : Int) ≤ 127]) (pc' := 3) (lv' := [(0, .inr (.inl (some 0))), (1, .inl (a0))]) (st' := [.inl (10), .inl (a0)]) (M' := M) rfl ⟨⟨by decide, by decide⟩, trivial⟩ ?_
  refine am_WcallS (y := 34) (n := 2) (f := 6) (co := 0) (as := [.inl (a0), .inl (10)]) (st' := []) rfl rfl rfl rfl rfl rfl rfl rfl rfl (Nat.zero_le _) rfl (am_CC_le (Nat.le_of_ble_eq_true rfl) (tm_X5_refuseOutside h)) (fun r M1 q => ?_) (fun E M q => hX _ _ q)
  obtain ⟨rfl, h⟩ := q
  refine am_Wrun 1 (ps := []) (pc' := 7) (lv' := [(0, .inr (.inl (some 0))), (1, .inl (a0))]) (st' := [.inl (a0)]) (M' := M1) rfl trivial ?_
  obtain ⟨c0, hd, j0, j1, j2, j3, j4, j5, j6, j7, j8, j9⟩ := h
  refine am_Wsw (n := 10) (t := 136) rfl c0 rfl (by decide) (fun q => ?_) (fun j hj e2 => ?_)
  · have h := hd q
    refine am_Wrun 3 (ps := []) (pc' := 143) (lv' := [(0, .inr (.inl (some 0))), (1, .inl (a0))]) (st' := [.inl (M1 14 2)]) (M' := M1) rfl trivial ?_
    exact am_Wreti rfl rfl h
  · match j, hj, e2 with
    | 0, _, e2 =>
      have h := j0 e2
      refine ⟨_, 60, rfl, rfl, ?_⟩
      refine am_Wrun 3 (ps := []) (pc' := 67) (lv' := [(0, .inr (.inl (some 0))), (1, .inl (a0))]) (st' := [.inl (M1 1 7)]) (M' := M1) rfl trivial ?_
      exact am_Wreti rfl rfl h
    | 1, _, e2 =>
      have h := j1 e2
      refine ⟨_, 68, rfl, rfl, ?_⟩
      refine am_Wrun 2 (ps := []) (pc' := 72) (lv' := [(0, .inr (.inl (some 0))), (1, .inl (a0))]) (st' := [.inr (.inl (some 1))]) (M' := M1) rfl trivial ?_
      refine am_WcallV (y := 5) (n := 1) (a := 1) (f := 75) (as := []) (st' := []) rfl rfl rfl rfl rfl rfl rfl rfl rfl rfl (Nat.zero_le _) rfl (am_CC_le (Nat.le_of_ble_eq_true rfl) (tm_X2_keptPoints h)) (fun r M3 q => ?_) (fun _ _ q => q.elim)
      obtain ⟨x2, rfl, h⟩ := q
      exact am_Wreti rfl rfl h
    | 2, _, e2 =>
      have h := j2 e2
      refine ⟨_, 76, rfl, rfl, ?_⟩
      refine am_Wrun 5 (ps := []) (pc' := 85) (lv' := [(0, .inr (.inl (some 0))), (1, .inl (a0))]) (st' := [.inl (M1 1 7), .inl (0), .inr (.inl (some 0))]) (M' := M1) rfl trivial ?_
      refine am_WcallV (y := 35) (n := 3) (a := 0) (f := 88) (as := [.inl (0), .inl (M1 1 7)]) (st' := []) rfl rfl rfl rfl rfl rfl rfl rfl rfl rfl (Nat.zero_le _) rfl (am_CC_le (Nat.le_of_ble_eq_true rfl) (tm_X5_brokenAmong h)) (fun r M5 q => ?_) (fun _ _ q => q.elim)
      obtain ⟨x4, rfl, h⟩ := q
      exact am_Wreti rfl rfl h
    | 3, _, e2 =>
      have h := j3 e2
      refine ⟨_, 89, rfl, rfl, ?_⟩
      refine am_Wrun 2 (ps := []) (pc' := 93) (lv' := [(0, .inr (.inl (some 0))), (1, .inl (a0))]) (st' := [.inr (.inl (some 1))]) (M' := M1) rfl trivial ?_
      refine am_WcallV (y := 36) (n := 1) (a := 1) (f := 96) (as := []) (st' := []) rfl rfl rfl rfl rfl rfl rfl rfl rfl rfl (Nat.zero_le _) rfl (am_CC_le (Nat.le_of_ble_eq_true rfl) (tm_X2_stretchCount h)) (fun r M7 q => ?_) (fun _ _ q => q.elim)
      obtain ⟨x6, rfl, h⟩ := q
      exact am_Wreti rfl rfl h
    | 4, _, e2 =>
      have h := j4 e2
      refine ⟨_, 97, rfl, rfl, ?_⟩
      refine am_Wrun 3 (ps := []) (pc' := 104) (lv' := [(0, .inr (.inl (some 0))), (1, .inl (a0))]) (st' := [.inl (M1 1 8)]) (M' := M1) rfl trivial ?_
      exact am_Wreti rfl rfl h
    | 5, _, e2 =>
      have h := j5 e2
      refine ⟨_, 105, rfl, rfl, ?_⟩
      refine am_Wrun 1 (ps := []) (pc' := 106) (lv' := [(0, .inr (.inl (some 0))), (1, .inl (a0))]) (st' := [.inr (.inl (some 0))]) (M' := M1) rfl trivial ?_
      refine am_WcallV (y := 37) (n := 1) (a := 0) (f := 109) (as := []) (st' := []) rfl rfl rfl rfl rfl rfl rfl rfl rfl rfl (Nat.zero_le _) rfl (am_CC_le (Nat.le_of_ble_eq_true rfl) (tm_X5_trueNotes h)) (fun r M9 q => ?_) (fun _ _ q => q.elim)
      obtain ⟨x8, rfl, h⟩ := q
      exact am_Wreti rfl rfl h
    | 6, _, e2 =>
      have h := j6 e2
      refine ⟨_, 110, rfl, rfl, ?_⟩
      refine am_Wrun 1 (ps := []) (pc' := 111) (lv' := [(0, .inr (.inl (some 0))), (1, .inl (a0))]) (st' := [.inr (.inl (some 0))]) (M' := M1) rfl trivial ?_
      refine am_WcallV (y := 38) (n := 1) (a := 0) (f := 114) (as := []) (st' := []) rfl rfl rfl rfl rfl rfl rfl rfl rfl rfl (Nat.zero_le _) rfl (am_CC_le (Nat.le_of_ble_eq_true rfl) (tm_X5_greatestError h)) (fun r M11 q => ?_) (fun _ _ q => q.elim)
      obtain ⟨x10, rfl, h⟩ := q
      exact am_Wreti rfl rfl h
    | 7, _, e2 =>
      have h := j7 e2
      refine ⟨_, 115, rfl, rfl, ?_⟩
      refine am_Wrun 3 (ps := []) (pc' := 122) (lv' := [(0, .inr (.inl (some 0))), (1, .inl (a0))]) (st' := [.inl (M1 1 9)]) (M' := M1) rfl trivial ?_
      exact am_Wreti rfl rfl h
    | 8, _, e2 =>
      have h := j8 e2
      refine ⟨_, 123, rfl, rfl, ?_⟩
      refine am_Wrun 3 (ps := []) (pc' := 130) (lv' := [(0, .inr (.inl (some 0))), (1, .inl (a0))]) (st' := [.inl (M1 1 10)]) (M' := M1) rfl trivial ?_
      exact am_Wreti rfl rfl h
    | 9, _, e2 =>
      have h := j9 e2
      refine ⟨_, 131, rfl, rfl, ?_⟩
      refine am_Wrun 1 (ps := []) (pc' := 132) (lv' := [(0, .inr (.inl (some 0))), (1, .inl (a0))]) (st' := [.inr (.inl (some 0))]) (M' := M1) rfl trivial ?_
      refine am_WcallV (y := 41) (n := 1) (a := 0) (f := 135) (as := []) (st' := []) rfl rfl rfl rfl rfl rfl rfl rfl rfl rfl (Nat.zero_le _) rfl (am_CC_le (Nat.le_of_ble_eq_true rfl) (tm_X5_longestStep h)) (fun r M13 q => ?_) (fun _ _ q => q.elim)
      obtain ⟨x12, rfl, h⟩ := q
      exact am_Wreti rfl rfl h
    | n + 10, hj, _ => exact absurd hj (by omega)
abbrev dt_L_count : am_D := (tk_L_count, 9, 4, some .int, tb_hn 215)
def wp_L_count (a1 : Int) (M : am_M) (Q : Int → am_M → Prop) : Prop := wp_X5_count a1 M (fun x1 M2 => (am_rg x1) ∧ (Q 0 (am_up M2 80 0 x1))) (fun E M3 => (E = 0 ∧ Q 1 M3))
set_option maxRecDepth 20000 in
theorem tm_L_count {a1 : Int} {M : am_M} {Q : Int → am_M → Prop} (h : wp_L_count a1 M Q) : am_CC 8 215 [.inr (.inl (some 0)), .inl (a1), .inr (.inl (some 80))] M (am_QI Q) (fun _ _ => False) := by
  refine ⟨Nat.le_of_ble_eq_true rfl, ?_⟩
  show am_W (am_CC 7) dt_L_count 7 1 none (am_QI Q) (am_qx 215 (fun _ _ => False)) (0, 0, [(0, .inr (.inl (some 0))), (1, .inl (a1)), (2, .inr (.inl (some 80)))], [], M)
  refine am_Wrun 4 (ps := []) (pc' := 4) (lv' := [(0, .inr (.inl (some 0))), (1, .inl (a1)), (2, .inr (.inl (some 80)))]) (st' := [.inl (a1), .inr (.inl (some 0)), .inl (0), .inr (.inl (some 80))]) (M' := M) rfl trivial ?_
  refine am_WcallV (y := 33) (n := 2) (a := 0) (f := 7) (as := [.inl (a1)]) (st' := [.inl (0), .inr (.inl (some 80))]) rfl rfl rfl rfl rfl rfl rfl rfl rfl rfl (Nat.zero_le _) rfl (am_CC_le (Nat.le_of_ble_eq_true rfl) (tm_X5_count h)) (fun r M2 q => ?_) (fun E M3 q => ?_)
  · obtain ⟨x1, rfl, h⟩ := q
    obtain ⟨c0_0, h⟩ := h
    refine am_Wrun 4 (ps := [am_rg x1, 0 ≤ (0 : Int) ∧ (0 : Int) < 1]) (pc' := 16) (lv' := [(0, .inr (.inl (some 0))), (1, .inl (a1)), (2, .inr (.inl (some 80)))]) (st' := [.inl (0)]) (M' := (am_up M2 80 0 x1)) rfl ⟨c0_0, ⟨by decide, by decide⟩, trivial⟩ ?_
    exact am_Wreti rfl rfl h
  · rcases q with ⟨rfl, h⟩
    · show 0 + 1 ≤ 1 ∧ am_W (am_CC 7) dt_L_count 7 1 none (am_QI Q) _ (0 + 1, 13, [(0, .inr (.inl (some 0))), (1, .inl (a1)), (2, .inr (.inl (some 80)))], [], M3)
      refine ⟨Nat.le_refl _, ?_⟩
      refine am_Wrun 1 (ps := []) (pc' := 14) (lv' := [(0, .inr (.inl (some 0))), (1, .inl (a1)), (2, .inr (.inl (some 80)))]) (st' := [.inl (1)]) (M' := M3) rfl trivial ?_
      exact am_Wreti rfl rfl h
abbrev dt_X6_brokenMany : am_D := (tk_X6_brokenMany, 6, 3, some .int, tb_hn 180)
def wl_X6_brokenMany_4 (Q : Int → am_M → Prop) : Nat → Int → Int → am_M → Prop
  | 0, _, _, _ => False
  | n + 1, v1, v2, M => (am_rg v2) ∧ (am_rg (M 70 0)) ∧ ((M 70 0) ≤ v2 → Q v1 M) ∧ (¬ (M 70 0) ≤ v2 → wp_X6_isBroken v2 M (fun x1 M2 => (am_rg x1) ∧ (x1 = 0 → wl_X6_brokenMany_4 Q n (v1 + 0) (v2 + 1) M2) ∧ (¬ x1 = 0 → wl_X6_brokenMany_4 Q n (v1 + 1) (v2 + 1) M2)))
def wp_X6_brokenMany (M : am_M) (Q : Int → am_M → Prop) : Prop := ∃ e4, wl_X6_brokenMany_4 Q e4 0 0 M
set_option maxRecDepth 20000 in
theorem tw_X6_brokenMany_4 {Q : Int → am_M → Prop} {QX : am_X} : ∀ (n : Nat) (v1 : Int) (v2 : Int) (M : am_M), wl_X6_brokenMany_4 Q n v1 v2 M → am_W (am_CC 7) dt_X6_brokenMany 7 0 none (am_QI Q) QX (0, 4, [(0, .inr (.inl (some 69))), (1, .inl (v1)), (2, .inl (v2))], [], M)
  | 0, _, _, _, h => h.elim
  | n + 1, v1, v2, M, h => by
    refine am_Wrun 5 (ps := [0 ≤ (0 : Int) ∧ (0 : Int) < 203]) (pc' := 11) (lv' := [(0, .inr (.inl (some 69))), (1, .inl (v1)), (2, .inl (v2))]) (st' := [.inl (M 70 0), .inl (v2)]) (M' := M) rfl ⟨⟨by decide, by decide⟩, trivial⟩ ?_
    obtain ⟨b0, b1, ht, hf⟩ := h
    refine am_Wbr (P := [am_rg v2, am_rg (M 70 0)]) (c := (M 70 0) ≤ v2) (t := 36) (f := 14) (st' := []) rfl rfl ⟨b0, b1, trivial⟩ rfl (fun q => ?_) (fun q => ?_)
    · have h := ht q
      refine am_Wrun 1 (ps := []) (pc' := 37) (lv' := [(0, .inr (.inl (some 69))), (1, .inl (v1)), (2, .inl (v2))]) (st' := [.inl (v1)]) (M' := M) rfl trivial ?_
      exact am_Wreti rfl rfl h
    · have h := hf q
      refine am_Wrun 3 (ps := []) (pc' := 17) (lv' := [(0, .inr (.inl (some 69))), (1, .inl (v1)), (2, .inl (v2))]) (st' := [.inl (v2), .inr (.inl (some 69)), .inl (v1)]) (M' := M) rfl trivial ?_
      refine am_WcallV (y := 138) (n := 2) (a := 69) (f := 20) (as := [.inl (v2)]) (st' := [.inl (v1)]) rfl rfl rfl rfl rfl rfl rfl rfl rfl rfl (Nat.zero_le _) rfl (am_CC_le (Nat.le_of_ble_eq_true rfl) (tm_X6_isBroken h)) (fun r M2 q => ?_) (fun _ _ q => q.elim)
      obtain ⟨x1, rfl, h⟩ := q
      obtain ⟨b0, ht, hf⟩ := h
      refine am_Wbr (P := [am_rg x1]) (c := x1 = 0) (t := 27) (f := 23) (st' := [.inl (v1)]) rfl rfl ⟨b0, trivial⟩ rfl (fun q => ?_) (fun q => ?_)
      · have h := ht q
        refine am_Wrun 5 (ps := []) (pc' := 4) (lv' := [(2, .inl (v2 + 1)), (1, .inl (v1 + 0)), (0, .inr (.inl (some 69)))]) (st' := []) (M' := M2) rfl trivial ?_
        refine am_W_sub [2, 1, 0] rfl ?_
        exact tw_X6_brokenMany_4 n (v1 + 0) (v2 + 1) M2 h
      · have h := hf q
        refine am_Wrun 6 (ps := []) (pc' := 4) (lv' := [(2, .inl (v2 + 1)), (1, .inl (v1 + 1)), (0, .inr (.inl (some 69)))]) (st' := []) (M' := M2) rfl trivial ?_
        refine am_W_sub [2, 1, 0] rfl ?_
        exact tw_X6_brokenMany_4 n (v1 + 1) (v2 + 1) M2 h
set_option maxRecDepth 20000 in
theorem tm_X6_brokenMany {M : am_M} {Q : Int → am_M → Prop} (h : wp_X6_brokenMany M Q) : am_CC 8 180 [.inr (.inl (some 69))] M (am_QI Q) (fun _ _ => False) := by
  refine ⟨Nat.le_of_ble_eq_true rfl, ?_⟩
  show am_W (am_CC 7) dt_X6_brokenMany 7 0 none (am_QI Q) (am_qx 180 (fun _ _ => False)) (0, 0, [(0, .inr (.inl (some 69)))], [], M)
  refine am_Wrun 4 (ps := []) (pc' := 4) (lv' := [(2, .inl (0)), (1, .inl (0)), (0, .inr (.inl (some 69)))]) (st' := []) (M' := M) rfl trivial ?_
  refine am_W_sub [2, 1, 0] rfl ?_
  obtain ⟨n4, h⟩ := h
  exact tw_X6_brokenMany_4 n4 0 0 M h
abbrev dt_X6_trueMany : am_D := (tk_X6_trueMany, 6, 3, some .int, tb_hn 181)
def wl_X6_trueMany_4 (Q : Int → am_M → Prop) : Nat → Int → Int → am_M → Prop
  | 0, _, _, _ => False
  | n + 1, v1, v2, M => (am_rg v2) ∧ (am_rg (M 70 1)) ∧ ((M 70 1) ≤ v2 → Q v1 M) ∧ (¬ (M 70 1) ≤ v2 → wp_X6_isTrueNote v2 M (fun x1 M2 => (am_rg x1) ∧ (x1 = 0 → wl_X6_trueMany_4 Q n (v1 + 0) (v2 + 1) M2) ∧ (¬ x1 = 0 → wl_X6_trueMany_4 Q n (v1 + 1) (v2 + 1) M2)))
def wp_X6_trueMany (M : am_M) (Q : Int → am_M → Prop) : Prop := ∃ e4, wl_X6_trueMany_4 Q e4 0 0 M
set_option maxRecDepth 20000 in
theorem tw_X6_trueMany_4 {Q : Int → am_M → Prop} {QX : am_X} : ∀ (n : Nat) (v1 : Int) (v2 : Int) (M : am_M), wl_X6_trueMany_4 Q n v1 v2 M → am_W (am_CC 7) dt_X6_trueMany 7 0 none (am_QI Q) QX (0, 4, [(0, .inr (.inl (some 69))), (1, .inl (v1)), (2, .inl (v2))], [], M)
  | 0, _, _, _, h => h.elim
  | n + 1, v1, v2, M, h => by
    refine am_Wrun 5 (ps := [0 ≤ (1 : Int) ∧ (1 : Int) < 203]) (pc' := 11) (lv' := [(0, .inr (.inl (some 69))), (1, .inl (v1)), (2, .inl (v2))]) (st' := [.inl (M 70 1), .inl (v2)]) (M' := M) rfl ⟨⟨by decide, by decide⟩, trivial⟩ ?_
    obtain ⟨b0, b1, ht, hf⟩ := h
    refine am_Wbr (P := [am_rg v2, am_rg (M 70 1)]) (c := (M 70 1) ≤ v2) (t := 36) (f := 14) (st' := []) rfl rfl ⟨b0, b1, trivial⟩ rfl (fun q => ?_) (fun q => ?_)
    · have h := ht q
      refine am_Wrun 1 (ps := []) (pc' := 37) (lv' := [(0, .inr (.inl (some 69))), (1, .inl (v1)), (2, .inl (v2))]) (st' := [.inl (v1)]) (M' := M) rfl trivial ?_
      exact am_Wreti rfl rfl h
    · have h := hf q
      refine am_Wrun 3 (ps := []) (pc' := 17) (lv' := [(0, .inr (.inl (some 69))), (1, .inl (v1)), (2, .inl (v2))]) (st' := [.inl (v2), .inr (.inl (some 69)), .inl (v1)]) (M' := M) rfl trivial ?_
      refine am_WcallV (y := 156) (n := 2) (a := 69) (f := 20) (as := [.inl (v2)]) (st' := [.inl (v1)]) rfl rfl rfl rfl rfl rfl rfl rfl rfl rfl (Nat.zero_le _) rfl (am_CC_le (Nat.le_of_ble_eq_true rfl) (tm_X6_isTrueNote h)) (fun r M2 q => ?_) (fun _ _ q => q.elim)
      obtain ⟨x1, rfl, h⟩ := q
      obtain ⟨b0, ht, hf⟩ := h
      refine am_Wbr (P := [am_rg x1]) (c := x1 = 0) (t := 27) (f := 23) (st' := [.inl (v1)]) rfl rfl ⟨b0, trivial⟩ rfl (fun q => ?_) (fun q => ?_)
      · have h := ht q
        refine am_Wrun 5 (ps := []) (pc' := 4) (lv' := [(2, .inl (v2 + 1)), (1, .inl (v1 + 0)), (0, .inr (.inl (some 69)))]) (st' := []) (M' := M2) rfl trivial ?_
        refine am_W_sub [2, 1, 0] rfl ?_
        exact tw_X6_trueMany_4 n (v1 + 0) (v2 + 1) M2 h
      · have h := hf q
        refine am_Wrun 6 (ps := []) (pc' := 4) (lv' := [(2, .inl (v2 + 1)), (1, .inl (v1 + 1)), (0, .inr (.inl (some 69)))]) (st' := []) (M' := M2) rfl trivial ?_
        refine am_W_sub [2, 1, 0] rfl ?_
        exact tw_X6_trueMany_4 n (v1 + 1) (v2 + 1) M2 h
set_option maxRecDepth 20000 in
theorem tm_X6_trueMany {M : am_M} {Q : Int → am_M → Prop} (h : wp_X6_trueMany M Q) : am_CC 8 181 [.inr (.inl (some 69))] M (am_QI Q) (fun _ _ => False) := by
  refine ⟨Nat.le_of_ble_eq_true rfl, ?_⟩
  show am_W (am_CC 7) dt_X6_trueMany 7 0 none (am_QI Q) (am_qx 181 (fun _ _ => False)) (0, 0, [(0, .inr (.inl (some 69)))], [], M)
  refine am_Wrun 4 (ps := []) (pc' := 4) (lv' := [(2, .inl (0)), (1, .inl (0)), (0, .inr (.inl (some 69)))]) (st' := []) (M' := M) rfl trivial ?_
  refine am_W_sub [2, 1, 0] rfl ?_
  obtain ⟨n4, h⟩ := h
  exact tw_X6_trueMany_4 n4 0 0 M h
abbrev dt_X6_greatestError : am_D := (tk_X6_greatestError, 6, 5, some .int, tb_hn 182)
def wj_X6_greatestError_62 (Q : Int → am_M → Prop) (k4 : Int → Int → am_M → Prop) (v1 : Int) (v2 : Int) (s0 : Int) (M : am_M) : Prop := (am_rg s0) ∧ (am_rg v1) ∧ (s0 ≤ v1 → k4 v1 (v2 + 1) M) ∧ (¬ s0 ≤ v1 → k4 s0 (v2 + 1) M)
def wj_X6_greatestError_40 (Q : Int → am_M → Prop) (k4 : Int → Int → am_M → Prop) (v1 : Int) (v2 : Int) (s0 : Int) (M : am_M) : Prop := (am_rg s0) ∧ (0 ≤ s0 → (am_rg ((s0 + (M 69 12)) - 1) ∧ am_rg (M 69 12) ∧ (0 : Int) < (M 69 12)) ∧ (wj_X6_greatestError_62 Q k4 v1 v2 (Int.tdiv ((s0 + (M 69 12)) - 1) (M 69 12)) M)) ∧ (¬ 0 ≤ s0 → wj_X6_greatestError_62 Q k4 v1 v2 0 M)
def wl_X6_greatestError_4 (Q : Int → am_M → Prop) : Nat → Int → Int → am_M → Prop
  | 0, _, _, _ => False
  | n + 1, v1, v2, M => (am_rg v2) ∧ (am_rg (M 70 0)) ∧ ((M 70 0) ≤ v2 → Q v1 M) ∧ (¬ (M 70 0) ≤ v2 → wp_X6_isKept v2 M (fun x1 M2 => (am_rg x1) ∧ (x1 = 0 → wp_X6_time v2 M2 (fun x3 M4 => wp_X6_value v2 M4 (fun x5 M6 => wp_X6_farFrom x3 x5 M6 (fun x7 M8 => wj_X6_greatestError_40 Q (wl_X6_greatestError_4 Q n) v1 v2 x7 M8)))) ∧ (¬ x1 = 0 → wj_X6_greatestError_40 Q (wl_X6_greatestError_4 Q n) v1 v2 (-1) M2)))
def wp_X6_greatestError (M : am_M) (Q : Int → am_M → Prop) : Prop := ∃ e4, wl_X6_greatestError_4 Q e4 0 0 M
set_option maxRecDepth 20000 in
theorem tj_X6_greatestError_62 {Q : Int → am_M → Prop} {QX : am_X} {k4 : Int → Int → am_M → Prop} (hk4 : ∀ (v1 : Int) (v2 : Int) (M : am_M), k4 v1 v2 M → am_W (am_CC 5) dt_X6_greatestError 5 0 none (am_QI Q) QX (0, 4, [(0, .inr (.inl (some 69))), (1, .inl (v1)), (2, .inl (v2))], [], M)) (v1 : Int) (v2 : Int) (s0 : Int) (M : am_M) (h : wj_X6_greatestError_62 Q k4 v1 v2 s0 M) : am_W (am_CC 5) dt_X6_greatestError 5 0 none (am_QI Q) QX (0, 62, [(0, .inr (.inl (some 69))), (1, .inl (v1)), (2, .inl (v2))], [.inl (s0)], M) := by
  refine am_Wrun 3 (ps := []) (pc' := 67) (lv' := [(4, .inl (s0)), (0, .inr (.inl (some 69))), (1, .inl (v1)), (2, .inl (v2))]) (st' := [.inl (v1), .inl (s0)]) (M' := M) rfl trivial ?_
  obtain ⟨b0, b1, ht, hf⟩ := h
  refine am_Wbr (P := [am_rg s0, am_rg v1]) (c := s0 ≤ v1) (t := 75) (f := 70) (st' := []) rfl rfl ⟨b0, b1, trivial⟩ rfl (fun q => ?_) (fun q => ?_)
  · have h := ht q
    refine am_Wrun 4 (ps := []) (pc' := 4) (lv' := [(2, .inl (v2 + 1)), (1, .inl (v1)), (4, .inl (s0)), (0, .inr (.inl (some 69)))]) (st' := []) (M' := M) rfl trivial ?_
    refine am_W_sub [3, 1, 0] rfl ?_
    exact hk4 v1 (v2 + 1) M h
  · have h := hf q
    refine am_Wrun 5 (ps := []) (pc' := 4) (lv' := [(2, .inl (v2 + 1)), (1, .inl (s0)), (4, .inl (s0)), (0, .inr (.inl (some 69)))]) (st' := []) (M' := M) rfl trivial ?_
    refine am_W_sub [3, 1, 0] rfl ?_
    exact hk4 s0 (v2 + 1) M h
set_option maxRecDepth 20000 in
theorem tj_X6_greatestError_40 {Q : Int → am_M → Prop} {QX : am_X} {k4 : Int → Int → am_M → Prop} (hk4 : ∀ (v1 : Int) (v2 : Int) (M : am_M), k4 v1 v2 M → am_W (am_CC 5) dt_X6_greatestError 5 0 none (am_QI Q) QX (0, 4, [(0, .inr (.inl (some 69))), (1, .inl (v1)), (2, .inl (v2))], [], M)) (v1 : Int) (v2 : Int) (s0 : Int) (M : am_M) (h : wj_X6_greatestError_40 Q k4 v1 v2 s0 M) : am_W (am_CC 5) dt_X6_greatestError 5 0 none (am_QI Q) QX (0, 40, [(0, .inr (.inl (some 69))), (1, .inl (v1)), (2, .inl (v2))], [.inl (s0)], M) := by
  refine am_Wrun 2 (ps := []) (pc' := 42) (lv' := [(3, .inl (s0)), (0, .inr (.inl (some 69))), (1, .inl (v1)), (2, .inl (v2))]) (st' := [.inl (s0)]) (M' := M) rfl trivial ?_
  obtain ⟨b0, ht, hf⟩ := h
  refine am_Wbr (P := [am_rg s0]) (c := 0 ≤ s0) (t := 49) (f := 45) (st' := []) rfl rfl ⟨b0, trivial⟩ rfl (fun q => ?_) (fun q => ?_)
  · have h := ht q
    obtain ⟨c0_0, h⟩ := h
    refine am_Wrun 9 (ps := [am_rg ((s0 + (M 69 12)) - 1) ∧ am_rg (M 69 12) ∧ (0 : Int) < (M 69 12)]) (pc' := 62) (lv' := [(3, .inl (s0)), (0, .inr (.inl (some 69))), (1, .inl (v1)), (2, .inl (v2))]) (st' := [.inl (Int.tdiv ((s0 + (M 69 12)) - 1) (M 69 12))]) (M' := M) rfl ⟨c0_0, trivial⟩ ?_
    refine am_W_sub [1, 2, 3] rfl ?_
    exact tj_X6_greatestError_62 hk4 v1 v2 (Int.tdiv ((s0 + (M 69 12)) - 1) (M 69 12)) M h
  · have h := hf q
    refine am_Wrun 2 (ps := []) (pc' := 62) (lv' := [(3, .inl (s0)), (0, .inr (.inl (some 69))), (1, .inl (v1)), (2, .inl (v2))]) (st' := [.inl (0)]) (M' := M) rfl trivial ?_
    refine am_W_sub [1, 2, 3] rfl ?_
    exact tj_X6_greatestError_62 hk4 v1 v2 0 M h
set_option maxRecDepth 20000 in
theorem tw_X6_greatestError_4 {Q : Int → am_M → Prop} {QX : am_X} : ∀ (n : Nat) (v1 : Int) (v2 : Int) (M : am_M), wl_X6_greatestError_4 Q n v1 v2 M → am_W (am_CC 5) dt_X6_greatestError 5 0 none (am_QI Q) QX (0, 4, [(0, .inr (.inl (some 69))), (1, .inl (v1)), (2, .inl (v2))], [], M)
  | 0, _, _, _, h => h.elim
  | n + 1, v1, v2, M, h => by
    refine am_Wrun 5 (ps := [0 ≤ (0 : Int) ∧ (0 : Int) < 203]) (pc' := 11) (lv' := [(0, .inr (.inl (some 69))), (1, .inl (v1)), (2, .inl (v2))]) (st' := [.inl (M 70 0), .inl (v2)]) (M' := M) rfl ⟨⟨by decide, by decide⟩, trivial⟩ ?_
    obtain ⟨b0, b1, ht, hf⟩ := h
    refine am_Wbr (P := [am_rg v2, am_rg (M 70 0)]) (c := (M 70 0) ≤ v2) (t := 83) (f := 14) (st' := []) rfl rfl ⟨b0, b1, trivial⟩ rfl (fun q => ?_) (fun q => ?_)
    · have h := ht q
      refine am_Wrun 1 (ps := []) (pc' := 84) (lv' := [(0, .inr (.inl (some 69))), (1, .inl (v1)), (2, .inl (v2))]) (st' := [.inl (v1)]) (M' := M) rfl trivial ?_
      exact am_Wreti rfl rfl h
    · have h := hf q
      refine am_Wrun 2 (ps := []) (pc' := 16) (lv' := [(0, .inr (.inl (some 69))), (1, .inl (v1)), (2, .inl (v2))]) (st' := [.inl (v2), .inr (.inl (some 69))]) (M' := M) rfl trivial ?_
      refine am_WcallV (y := 123) (n := 2) (a := 69) (f := 19) (as := [.inl (v2)]) (st' := []) rfl rfl rfl rfl rfl rfl rfl rfl rfl rfl (Nat.zero_le _) rfl (am_CC_le (Nat.le_of_ble_eq_true rfl) (tm_X6_isKept h)) (fun r M2 q => ?_) (fun _ _ q => q.elim)
      obtain ⟨x1, rfl, h⟩ := q
      obtain ⟨b0, ht, hf⟩ := h
      refine am_Wbr (P := [am_rg x1]) (c := x1 = 0) (t := 26) (f := 22) (st' := []) rfl rfl ⟨b0, trivial⟩ rfl (fun q => ?_) (fun q => ?_)
      · have h := ht q
        refine am_Wrun 3 (ps := []) (pc' := 29) (lv' := [(0, .inr (.inl (some 69))), (1, .inl (v1)), (2, .inl (v2))]) (st' := [.inl (v2), .inr (.inl (some 69)), .inr (.inl (some 69))]) (M' := M2) rfl trivial ?_
        refine am_WcallV (y := 115) (n := 2) (a := 69) (f := 32) (as := [.inl (v2)]) (st' := [.inr (.inl (some 69))]) rfl rfl rfl rfl rfl rfl rfl rfl rfl rfl (Nat.zero_le _) rfl (am_CC_le (Nat.le_of_ble_eq_true rfl) (tm_X6_time h)) (fun r M4 q => ?_) (fun _ _ q => q.elim)
        obtain ⟨x3, rfl, h⟩ := q
        refine am_Wrun 2 (ps := []) (pc' := 34) (lv' := [(0, .inr (.inl (some 69))), (1, .inl (v1)), (2, .inl (v2))]) (st' := [.inl (v2), .inr (.inl (some 69)), .inl (x3), .inr (.inl (some 69))]) (M' := M4) rfl trivial ?_
        refine am_WcallV (y := 120) (n := 2) (a := 69) (f := 37) (as := [.inl (v2)]) (st' := [.inl (x3), .inr (.inl (some 69))]) rfl rfl rfl rfl rfl rfl rfl rfl rfl rfl (Nat.zero_le _) rfl (am_CC_le (Nat.le_of_ble_eq_true rfl) (tm_X6_value h)) (fun r M6 q => ?_) (fun _ _ q => q.elim)
        obtain ⟨x5, rfl, h⟩ := q
        refine am_WcallV (y := 140) (n := 3) (a := 69) (f := 40) (as := [.inl (x3), .inl (x5)]) (st' := []) rfl rfl rfl rfl rfl rfl rfl rfl rfl rfl (Nat.zero_le _) rfl (am_CC_le (Nat.le_of_ble_eq_true rfl) (tm_X6_farFrom h)) (fun r M8 q => ?_) (fun _ _ q => q.elim)
        obtain ⟨x7, rfl, h⟩ := q
        refine am_W_sub [0, 1, 2] rfl ?_
        exact tj_X6_greatestError_40 (tw_X6_greatestError_4 n) v1 v2 x7 M8 h
      · have h := hf q
        refine am_Wrun 2 (ps := []) (pc' := 40) (lv' := [(0, .inr (.inl (some 69))), (1, .inl (v1)), (2, .inl (v2))]) (st' := [.inl ((-1))]) (M' := M2) rfl trivial ?_
        refine am_W_sub [0, 1, 2] rfl ?_
        exact tj_X6_greatestError_40 (tw_X6_greatestError_4 n) v1 v2 (-1) M2 h
set_option maxRecDepth 20000 in
theorem tm_X6_greatestError {M : am_M} {Q : Int → am_M → Prop} (h : wp_X6_greatestError M Q) : am_CC 6 182 [.inr (.inl (some 69))] M (am_QI Q) (fun _ _ => False) := by
  refine ⟨Nat.le_of_ble_eq_true rfl, ?_⟩
  show am_W (am_CC 5) dt_X6_greatestError 5 0 none (am_QI Q) (am_qx 182 (fun _ _ => False)) (0, 0, [(0, .inr (.inl (some 69)))], [], M)
  refine am_Wrun 4 (ps := []) (pc' := 4) (lv' := [(2, .inl (0)), (1, .inl (0)), (0, .inr (.inl (some 69)))]) (st' := []) (M' := M) rfl trivial ?_
  refine am_W_sub [2, 1, 0] rfl ?_
  obtain ⟨n4, h⟩ := h
  exact tw_X6_greatestError_4 n4 0 0 M h
abbrev dt_X6_greatestStep : am_D := (tk_X6_greatestStep, 6, 4, some .int, tb_hn 183)
def wj_X6_greatestStep_52 (Q : Int → am_M → Prop) (k4 : Int → Int → am_M → Prop) (v1 : Int) (v2 : Int) (s0 : Int) (M : am_M) : Prop := (am_rg s0) ∧ (am_rg v1) ∧ (s0 ≤ v1 → k4 v1 (v2 + 1) M) ∧ (¬ s0 ≤ v1 → k4 s0 (v2 + 1) M)
def wj_X6_greatestStep_51 (Q : Int → am_M → Prop) (k4 : Int → Int → am_M → Prop) (v1 : Int) (v2 : Int) (M : am_M) : Prop := wj_X6_greatestStep_52 Q k4 v1 v2 0 M
def wl_X6_greatestStep_4 (Q : Int → am_M → Prop) : Nat → Int → Int → am_M → Prop
  | 0, _, _, _ => False
  | n + 1, v1, v2, M => (am_rg v2) ∧ (am_rg (M 70 0)) ∧ ((M 70 0) ≤ v2 → Q v1 M) ∧ (¬ (M 70 0) ≤ v2 → wp_X6_neighbors v2 M (fun M1 => wp_X6_isKept v2 M1 (fun x2 M3 => (am_rg x2) ∧ (x2 = 0 → wj_X6_greatestStep_51 Q (wl_X6_greatestStep_4 Q n) v1 v2 M3) ∧ (¬ x2 = 0 → (am_rg (M3 69 10)) ∧ ((M3 69 10) < 0 → wj_X6_greatestStep_51 Q (wl_X6_greatestStep_4 Q n) v1 v2 M3) ∧ (¬ (M3 69 10) < 0 → wp_X6_time (M3 69 10) M3 (fun x4 M5 => wp_X6_time v2 M5 (fun x6 M7 => wj_X6_greatestStep_52 Q (wl_X6_greatestStep_4 Q n) v1 v2 (x4 - x6) M7)))))))
def wp_X6_greatestStep (M : am_M) (Q : Int → am_M → Prop) : Prop := ∃ e4, wl_X6_greatestStep_4 Q e4 0 0 M
set_option maxRecDepth 20000 in
theorem tj_X6_greatestStep_52 {Q : Int → am_M → Prop} {QX : am_X} {k4 : Int → Int → am_M → Prop} (hk4 : ∀ (v1 : Int) (v2 : Int) (M : am_M), k4 v1 v2 M → am_W (am_CC 4) dt_X6_greatestStep 4 0 none (am_QI Q) QX (0, 4, [(0, .inr (.inl (some 69))), (1, .inl (v1)), (2, .inl (v2))], [], M)) (v1 : Int) (v2 : Int) (s0 : Int) (M : am_M) (h : wj_X6_greatestStep_52 Q k4 v1 v2 s0 M) : am_W (am_CC 4) dt_X6_greatestStep 4 0 none (am_QI Q) QX (0, 52, [(0, .inr (.inl (some 69))), (1, .inl (v1)), (2, .inl (v2))], [.inl (s0)], M) := by
  refine am_Wrun 3 (ps := []) (pc' := 55) (lv' := [(3, .inl (s0)), (0, .inr (.inl (some 69))), (1, .inl (v1)), (2, .inl (v2))]) (st' := [.inl (v1), .inl (s0)]) (M' := M) rfl trivial ?_
  obtain ⟨b0, b1, ht, hf⟩ := h
  refine am_Wbr (P := [am_rg s0, am_rg v1]) (c := s0 ≤ v1) (t := 62) (f := 58) (st' := []) rfl rfl ⟨b0, b1, trivial⟩ rfl (fun q => ?_) (fun q => ?_)
  · have h := ht q
    refine am_Wrun 4 (ps := []) (pc' := 4) (lv' := [(2, .inl (v2 + 1)), (1, .inl (v1)), (3, .inl (s0)), (0, .inr (.inl (some 69)))]) (st' := []) (M' := M) rfl trivial ?_
    refine am_W_sub [3, 1, 0] rfl ?_
    exact hk4 v1 (v2 + 1) M h
  · have h := hf q
    refine am_Wrun 5 (ps := []) (pc' := 4) (lv' := [(2, .inl (v2 + 1)), (1, .inl (s0)), (3, .inl (s0)), (0, .inr (.inl (some 69)))]) (st' := []) (M' := M) rfl trivial ?_
    refine am_W_sub [3, 1, 0] rfl ?_
    exact hk4 s0 (v2 + 1) M h
set_option maxRecDepth 20000 in
theorem tj_X6_greatestStep_51 {Q : Int → am_M → Prop} {QX : am_X} {k4 : Int → Int → am_M → Prop} (hk4 : ∀ (v1 : Int) (v2 : Int) (M : am_M), k4 v1 v2 M → am_W (am_CC 4) dt_X6_greatestStep 4 0 none (am_QI Q) QX (0, 4, [(0, .inr (.inl (some 69))), (1, .inl (v1)), (2, .inl (v2))], [], M)) (v1 : Int) (v2 : Int) (M : am_M) (h : wj_X6_greatestStep_51 Q k4 v1 v2 M) : am_W (am_CC 4) dt_X6_greatestStep 4 0 none (am_QI Q) QX (0, 51, [(0, .inr (.inl (some 69))), (1, .inl (v1)), (2, .inl (v2))], [], M) := by
  refine am_Wrun 1 (ps := []) (pc' := 52) (lv' := [(0, .inr (.inl (some 69))), (1, .inl (v1)), (2, .inl (v2))]) (st' := [.inl (0)]) (M' := M) rfl trivial ?_
  refine am_W_sub [0, 1, 2] rfl ?_
  exact tj_X6_greatestStep_52 hk4 v1 v2 0 M h
set_option maxRecDepth 20000 in
theorem tw_X6_greatestStep_4 {Q : Int → am_M → Prop} {QX : am_X} : ∀ (n : Nat) (v1 : Int) (v2 : Int) (M : am_M), wl_X6_greatestStep_4 Q n v1 v2 M → am_W (am_CC 4) dt_X6_greatestStep 4 0 none (am_QI Q) QX (0, 4, [(0, .inr (.inl (some 69))), (1, .inl (v1)), (2, .inl (v2))], [], M)
  | 0, _, _, _, h => h.elim
  | n + 1, v1, v2, M, h => by
    refine am_Wrun 5 (ps := [0 ≤ (0 : Int) ∧ (0 : Int) < 203]) (pc' := 11) (lv' := [(0, .inr (.inl (some 69))), (1, .inl (v1)), (2, .inl (v2))]) (st' := [.inl (M 70 0), .inl (v2)]) (M' := M) rfl ⟨⟨by decide, by decide⟩, trivial⟩ ?_
    obtain ⟨b0, b1, ht, hf⟩ := h
    refine am_Wbr (P := [am_rg v2, am_rg (M 70 0)]) (c := (M 70 0) ≤ v2) (t := 70) (f := 14) (st' := []) rfl rfl ⟨b0, b1, trivial⟩ rfl (fun q => ?_) (fun q => ?_)
    · have h := ht q
      refine am_Wrun 1 (ps := []) (pc' := 71) (lv' := [(0, .inr (.inl (some 69))), (1, .inl (v1)), (2, .inl (v2))]) (st' := [.inl (v1)]) (M' := M) rfl trivial ?_
      exact am_Wreti rfl rfl h
    · have h := hf q
      refine am_Wrun 2 (ps := []) (pc' := 16) (lv' := [(0, .inr (.inl (some 69))), (1, .inl (v1)), (2, .inl (v2))]) (st' := [.inl (v2), .inr (.inl (some 69))]) (M' := M) rfl trivial ?_
      refine am_WcallV (y := 124) (n := 2) (a := 69) (f := 19) (as := [.inl (v2)]) (st' := []) rfl rfl rfl rfl rfl rfl rfl rfl rfl rfl (Nat.zero_le _) rfl (am_CC_le (Nat.le_of_ble_eq_true rfl) (tm_X6_neighbors h)) (fun r M1 q => ?_) (fun _ _ q => q.elim)
      obtain ⟨rfl, h⟩ := q
      refine am_Wrun 2 (ps := []) (pc' := 21) (lv' := [(0, .inr (.inl (some 69))), (1, .inl (v1)), (2, .inl (v2))]) (st' := [.inl (v2), .inr (.inl (some 69))]) (M' := M1) rfl trivial ?_
      refine am_WcallV (y := 123) (n := 2) (a := 69) (f := 24) (as := [.inl (v2)]) (st' := []) rfl rfl rfl rfl rfl rfl rfl rfl rfl rfl (Nat.zero_le _) rfl (am_CC_le (Nat.le_of_ble_eq_true rfl) (tm_X6_isKept h)) (fun r M3 q => ?_) (fun _ _ q => q.elim)
      obtain ⟨x2, rfl, h⟩ := q
      obtain ⟨b0, ht, hf⟩ := h
      refine am_Wbr (P := [am_rg x2]) (c := x2 = 0) (t := 51) (f := 27) (st' := []) rfl rfl ⟨b0, trivial⟩ rfl (fun q => ?_) (fun q => ?_)
      · have h := ht q
        refine am_W_sub [0, 1, 2] rfl ?_
        exact tj_X6_greatestStep_51 (tw_X6_greatestStep_4 n) v1 v2 M3 h
      · have h := hf q
        refine am_Wrun 2 (ps := []) (pc' := 31) (lv' := [(0, .inr (.inl (some 69))), (1, .inl (v1)), (2, .inl (v2))]) (st' := [.inl (M3 69 10)]) (M' := M3) rfl trivial ?_
        obtain ⟨b0, ht, hf⟩ := h
        refine am_Wbr (P := [am_rg (M3 69 10)]) (c := (M3 69 10) < 0) (t := 51) (f := 34) (st' := []) rfl rfl ⟨b0, trivial⟩ rfl (fun q => ?_) (fun q => ?_)
        · have h := ht q
          refine am_W_sub [0, 1, 2] rfl ?_
          exact tj_X6_greatestStep_51 (tw_X6_greatestStep_4 n) v1 v2 M3 h
        · have h := hf q
          refine am_Wrun 3 (ps := []) (pc' := 39) (lv' := [(0, .inr (.inl (some 69))), (1, .inl (v1)), (2, .inl (v2))]) (st' := [.inl (M3 69 10), .inr (.inl (some 69))]) (M' := M3) rfl trivial ?_
          refine am_WcallV (y := 115) (n := 2) (a := 69) (f := 42) (as := [.inl (M3 69 10)]) (st' := []) rfl rfl rfl rfl rfl rfl rfl rfl rfl rfl (Nat.zero_le _) rfl (am_CC_le (Nat.le_of_ble_eq_true rfl) (tm_X6_time h)) (fun r M5 q => ?_) (fun _ _ q => q.elim)
          obtain ⟨x4, rfl, h⟩ := q
          refine am_Wrun 2 (ps := []) (pc' := 44) (lv' := [(0, .inr (.inl (some 69))), (1, .inl (v1)), (2, .inl (v2))]) (st' := [.inl (v2), .inr (.inl (some 69)), .inl (x4)]) (M' := M5) rfl trivial ?_
          refine am_WcallV (y := 115) (n := 2) (a := 69) (f := 47) (as := [.inl (v2)]) (st' := [.inl (x4)]) rfl rfl rfl rfl rfl rfl rfl rfl rfl rfl (Nat.zero_le _) rfl (am_CC_le (Nat.le_of_ble_eq_true rfl) (tm_X6_time h)) (fun r M7 q => ?_) (fun _ _ q => q.elim)
          obtain ⟨x6, rfl, h⟩ := q
          refine am_Wrun 2 (ps := []) (pc' := 52) (lv' := [(0, .inr (.inl (some 69))), (1, .inl (v1)), (2, .inl (v2))]) (st' := [.inl (x4 - x6)]) (M' := M7) rfl trivial ?_
          refine am_W_sub [0, 1, 2] rfl ?_
          exact tj_X6_greatestStep_52 (tw_X6_greatestStep_4 n) v1 v2 (x4 - x6) M7 h
set_option maxRecDepth 20000 in
theorem tm_X6_greatestStep {M : am_M} {Q : Int → am_M → Prop} (h : wp_X6_greatestStep M Q) : am_CC 5 183 [.inr (.inl (some 69))] M (am_QI Q) (fun _ _ => False) := by
  refine ⟨Nat.le_of_ble_eq_true rfl, ?_⟩
  show am_W (am_CC 4) dt_X6_greatestStep 4 0 none (am_QI Q) (am_qx 183 (fun _ _ => False)) (0, 0, [(0, .inr (.inl (some 69)))], [], M)
  refine am_Wrun 4 (ps := []) (pc' := 4) (lv' := [(2, .inl (0)), (1, .inl (0)), (0, .inr (.inl (some 69)))]) (st' := []) (M' := M) rfl trivial ?_
  refine am_W_sub [2, 1, 0] rfl ?_
  obtain ⟨n4, h⟩ := h
  exact tw_X6_greatestStep_4 n4 0 0 M h
abbrev dt_X6_number : am_D := (tk_X6_number, 6, 2, some .int, tb_hn 179)
def wp_X6_number (a0 : Int) (M : am_M) (Q : Int → am_M → Prop) : Prop := (am_rg a0) ∧ ((a0 < 0 ∨ 9 < a0) → Q (M 69 2) M) ∧ (a0 = 0 → Q (M 70 0) M) ∧ (a0 = 1 → wp_X6_keptMany M (fun x1 M2 => Q x1 M2)) ∧ (a0 = 2 → wp_X6_brokenMany M (fun x3 M4 => Q x3 M4)) ∧ (a0 = 3 → wp_X6_stretches M (fun x5 M6 => Q x5 M6)) ∧ (a0 = 4 → Q (M 70 1) M) ∧ (a0 = 5 → wp_X6_trueMany M (fun x7 M8 => Q x7 M8)) ∧ (a0 = 6 → wp_X6_greatestError M (fun x9 M10 => Q x9 M10)) ∧ (a0 = 7 → Q (M 70 2) M) ∧ (a0 = 8 → Q (M 70 3) M) ∧ (a0 = 9 → wp_X6_greatestStep M (fun x11 M12 => Q x11 M12))
set_option maxRecDepth 20000 in
theorem tm_X6_number {a0 : Int} {M : am_M} {Q : Int → am_M → Prop} (h : wp_X6_number a0 M Q) : am_CC 9 179 [.inr (.inl (some 69)), .inl (a0)] M (am_QI Q) (fun _ _ => False) := by
  refine ⟨Nat.le_of_ble_eq_true rfl, ?_⟩
  show am_W (am_CC 8) dt_X6_number 8 0 none (am_QI Q) (am_qx 179 (fun _ _ => False)) (0, 0, [(0, .inr (.inl (some 69))), (1, .inl (a0))], [], M)
  refine am_Wrun 1 (ps := []) (pc' := 1) (lv' := [(0, .inr (.inl (some 69))), (1, .inl (a0))]) (st' := [.inl (a0)]) (M' := M) rfl trivial ?_
  obtain ⟨c0, hd, j0, j1, j2, j3, j4, j5, j6, j7, j8, j9⟩ := h
  refine am_Wsw (n := 10) (t := 114) rfl c0 rfl (by decide) (fun q => ?_) (fun j hj e2 => ?_)
  · have h := hd q
    refine am_Wrun 2 (ps := []) (pc' := 118) (lv' := [(0, .inr (.inl (some 69))), (1, .inl (a0))]) (st' := [.inl (M 69 2)]) (M' := M) rfl trivial ?_
    exact am_Wreti rfl rfl h
  · match j, hj, e2 with
    | 0, _, e2 =>
      have h := j0 e2
      refine ⟨_, 56, rfl, rfl, ?_⟩
      refine am_Wrun 4 (ps := [0 ≤ (0 : Int) ∧ (0 : Int) < 203]) (pc' := 62) (lv' := [(0, .inr (.inl (some 69))), (1, .inl (a0))]) (st' := [.inl (M 70 0)]) (M' := M) rfl ⟨⟨by decide, by decide⟩, trivial⟩ ?_
      exact am_Wreti rfl rfl h
    | 1, _, e2 =>
      have h := j1 e2
      refine ⟨_, 63, rfl, rfl, ?_⟩
      refine am_Wrun 1 (ps := []) (pc' := 64) (lv' := [(0, .inr (.inl (some 69))), (1, .inl (a0))]) (st' := [.inr (.inl (some 69))]) (M' := M) rfl trivial ?_
      refine am_WcallV (y := 135) (n := 1) (a := 69) (f := 67) (as := []) (st' := []) rfl rfl rfl rfl rfl rfl rfl rfl rfl rfl (Nat.zero_le _) rfl (am_CC_le (Nat.le_of_ble_eq_true rfl) (tm_X6_keptMany h)) (fun r M2 q => ?_) (fun _ _ q => q.elim)
      obtain ⟨x1, rfl, h⟩ := q
      exact am_Wreti rfl rfl h
    | 2, _, e2 =>
      have h := j2 e2
      refine ⟨_, 68, rfl, rfl, ?_⟩
      refine am_Wrun 1 (ps := []) (pc' := 69) (lv' := [(0, .inr (.inl (some 69))), (1, .inl (a0))]) (st' := [.inr (.inl (some 69))]) (M' := M) rfl trivial ?_
      refine am_WcallV (y := 180) (n := 1) (a := 69) (f := 72) (as := []) (st' := []) rfl rfl rfl rfl rfl rfl rfl rfl rfl rfl (Nat.zero_le _) rfl (am_CC_le (Nat.le_of_ble_eq_true rfl) (tm_X6_brokenMany h)) (fun r M4 q => ?_) (fun _ _ q => q.elim)
      obtain ⟨x3, rfl, h⟩ := q
      exact am_Wreti rfl rfl h
    | 3, _, e2 =>
      have h := j3 e2
      refine ⟨_, 73, rfl, rfl, ?_⟩
      refine am_Wrun 1 (ps := []) (pc' := 74) (lv' := [(0, .inr (.inl (some 69))), (1, .inl (a0))]) (st' := [.inr (.inl (some 69))]) (M' := M) rfl trivial ?_
      refine am_WcallV (y := 151) (n := 1) (a := 69) (f := 77) (as := []) (st' := []) rfl rfl rfl rfl rfl rfl rfl rfl rfl rfl (Nat.zero_le _) rfl (am_CC_le (Nat.le_of_ble_eq_true rfl) (tm_X6_stretches h)) (fun r M6 q => ?_) (fun _ _ q => q.elim)
      obtain ⟨x5, rfl, h⟩ := q
      exact am_Wreti rfl rfl h
    | 4, _, e2 =>
      have h := j4 e2
      refine ⟨_, 78, rfl, rfl, ?_⟩
      refine am_Wrun 4 (ps := [0 ≤ (1 : Int) ∧ (1 : Int) < 203]) (pc' := 84) (lv' := [(0, .inr (.inl (some 69))), (1, .inl (a0))]) (st' := [.inl (M 70 1)]) (M' := M) rfl ⟨⟨by decide, by decide⟩, trivial⟩ ?_
      exact am_Wreti rfl rfl h
    | 5, _, e2 =>
      have h := j5 e2
      refine ⟨_, 85, rfl, rfl, ?_⟩
      refine am_Wrun 1 (ps := []) (pc' := 86) (lv' := [(0, .inr (.inl (some 69))), (1, .inl (a0))]) (st' := [.inr (.inl (some 69))]) (M' := M) rfl trivial ?_
      refine am_WcallV (y := 181) (n := 1) (a := 69) (f := 89) (as := []) (st' := []) rfl rfl rfl rfl rfl rfl rfl rfl rfl rfl (Nat.zero_le _) rfl (am_CC_le (Nat.le_of_ble_eq_true rfl) (tm_X6_trueMany h)) (fun r M8 q => ?_) (fun _ _ q => q.elim)
      obtain ⟨x7, rfl, h⟩ := q
      exact am_Wreti rfl rfl h
    | 6, _, e2 =>
      have h := j6 e2
      refine ⟨_, 90, rfl, rfl, ?_⟩
      refine am_Wrun 1 (ps := []) (pc' := 91) (lv' := [(0, .inr (.inl (some 69))), (1, .inl (a0))]) (st' := [.inr (.inl (some 69))]) (M' := M) rfl trivial ?_
      refine am_WcallV (y := 182) (n := 1) (a := 69) (f := 94) (as := []) (st' := []) rfl rfl rfl rfl rfl rfl rfl rfl rfl rfl (Nat.zero_le _) rfl (am_CC_le (Nat.le_of_ble_eq_true rfl) (tm_X6_greatestError h)) (fun r M10 q => ?_) (fun _ _ q => q.elim)
      obtain ⟨x9, rfl, h⟩ := q
      exact am_Wreti rfl rfl h
    | 7, _, e2 =>
      have h := j7 e2
      refine ⟨_, 95, rfl, rfl, ?_⟩
      refine am_Wrun 4 (ps := [0 ≤ (2 : Int) ∧ (2 : Int) < 203]) (pc' := 101) (lv' := [(0, .inr (.inl (some 69))), (1, .inl (a0))]) (st' := [.inl (M 70 2)]) (M' := M) rfl ⟨⟨by decide, by decide⟩, trivial⟩ ?_
      exact am_Wreti rfl rfl h
    | 8, _, e2 =>
      have h := j8 e2
      refine ⟨_, 102, rfl, rfl, ?_⟩
      refine am_Wrun 4 (ps := [0 ≤ (3 : Int) ∧ (3 : Int) < 203]) (pc' := 108) (lv' := [(0, .inr (.inl (some 69))), (1, .inl (a0))]) (st' := [.inl (M 70 3)]) (M' := M) rfl ⟨⟨by decide, by decide⟩, trivial⟩ ?_
      exact am_Wreti rfl rfl h
    | 9, _, e2 =>
      have h := j9 e2
      refine ⟨_, 109, rfl, rfl, ?_⟩
      refine am_Wrun 1 (ps := []) (pc' := 110) (lv' := [(0, .inr (.inl (some 69))), (1, .inl (a0))]) (st' := [.inr (.inl (some 69))]) (M' := M) rfl trivial ?_
      refine am_WcallV (y := 183) (n := 1) (a := 69) (f := 113) (as := []) (st' := []) rfl rfl rfl rfl rfl rfl rfl rfl rfl rfl (Nat.zero_le _) rfl (am_CC_le (Nat.le_of_ble_eq_true rfl) (tm_X6_greatestStep h)) (fun r M12 q => ?_) (fun _ _ q => q.elim)
      obtain ⟨x11, rfl, h⟩ := q
      exact am_Wreti rfl rfl h
    | n + 10, hj, _ => exact absurd hj (by omega)
abbrev dt_X6_count : am_D := (tk_X6_count, 6, 2, some .int, tb_hn 178)
def wp_X6_count (a0 : Int) (M : am_M) (Q : Int → am_M → Prop) : Prop := wp_X6_in a0 0 10 (am_up M 69 5 0) (fun x1 M2 => (am_rg x1) ∧ (x1 = 0 → wp_X6_fails 1 M2 (fun x3 M4 => Q x3 M4)) ∧ (¬ x1 = 0 → wp_X6_number a0 M2 (fun x5 M6 => Q x5 M6)))
set_option maxRecDepth 20000 in
theorem tm_X6_count {a0 : Int} {M : am_M} {Q : Int → am_M → Prop} (h : wp_X6_count a0 M Q) : am_CC 10 178 [.inr (.inl (some 69)), .inl (a0)] M (am_QI Q) (fun _ _ => False) := by
  refine ⟨Nat.le_of_ble_eq_true rfl, ?_⟩
  show am_W (am_CC 9) dt_X6_count 9 0 none (am_QI Q) (am_qx 178 (fun _ _ => False)) (0, 0, [(0, .inr (.inl (some 69))), (1, .inl (a0))], [], M)
  refine am_Wrun 6 (ps := [-128 ≤ (10 : Int) ∧ (10 : Int) ≤ 127]) (pc' := 9) (lv' := [(0, .inr (.inl (some 69))), (1, .inl (a0))]) (st' := [.inl (10), .inl (0), .inl (a0)]) (M' := (am_up M 69 5 0)) rfl ⟨⟨by decide, by decide⟩, trivial⟩ ?_
  refine am_WcallS (y := 112) (n := 3) (f := 12) (co := 0) (as := [.inl (a0), .inl (0), .inl (10)]) (st' := []) rfl rfl rfl rfl rfl rfl rfl rfl rfl (Nat.zero_le _) rfl (am_CC_le (Nat.le_of_ble_eq_true rfl) (tm_X6_in h)) (fun r M2 q => ?_) (fun _ _ q => q.elim)
  obtain ⟨x1, rfl, h⟩ := q
  obtain ⟨b0, ht, hf⟩ := h
  refine am_Wbr (P := [am_rg x1]) (c := x1 = 0) (t := 23) (f := 15) (st' := []) rfl rfl ⟨b0, trivial⟩ rfl (fun q => ?_) (fun q => ?_)
  · have h := ht q
    refine am_Wrun 2 (ps := []) (pc' := 25) (lv' := [(0, .inr (.inl (some 69))), (1, .inl (a0))]) (st' := [.inl (1), .inr (.inl (some 69))]) (M' := M2) rfl trivial ?_
    refine am_WcallV (y := 113) (n := 2) (a := 69) (f := 28) (as := [.inl (1)]) (st' := []) rfl rfl rfl rfl rfl rfl rfl rfl rfl rfl (Nat.zero_le _) rfl (am_CC_le (Nat.le_of_ble_eq_true rfl) (tm_X6_fails h)) (fun r M4 q => ?_) (fun _ _ q => q.elim)
    obtain ⟨x3, rfl, h⟩ := q
    exact am_Wreti rfl rfl h
  · have h := hf q
    refine am_Wrun 2 (ps := []) (pc' := 17) (lv' := [(0, .inr (.inl (some 69))), (1, .inl (a0))]) (st' := [.inl (a0), .inr (.inl (some 69))]) (M' := M2) rfl trivial ?_
    refine am_WcallV (y := 179) (n := 2) (a := 69) (f := 20) (as := [.inl (a0)]) (st' := []) rfl rfl rfl rfl rfl rfl rfl rfl rfl rfl (Nat.zero_le _) rfl (am_CC_le (Nat.le_of_ble_eq_true rfl) (tm_X6_number h)) (fun r M6 q => ?_) (fun _ _ q => q.elim)
    obtain ⟨x5, rfl, h⟩ := q
    refine am_Wrun 1 (ps := []) (pc' := 28) (lv' := [(0, .inr (.inl (some 69))), (1, .inl (a0))]) (st' := [.inl (x5)]) (M' := M6) rfl trivial ?_
    exact am_Wreti rfl rfl h
abbrev dt_X5_setting : am_D := (tk_X5_setting, 5, 2, some .int, tb_hn 105)
def wp_X5_setting (a0 : Int) (M : am_M) (Q : Int → am_M → Prop) (X : am_X) : Prop := wp_X5_refuseNoSetting a0 M (fun M1 => (0 ≤ (a0 : Int) ∧ (a0 : Int) < 3) ∧ (Q (M1 6 a0) M1)) X
set_option maxRecDepth 20000 in
theorem tm_X5_setting {a0 : Int} {M : am_M} {Q : Int → am_M → Prop} {X : am_X} (h : wp_X5_setting a0 M Q X) : am_CC 7 105 [.inr (.inl (some 0)), .inl (a0)] M (am_QI Q) X := by
  refine ⟨Nat.le_of_ble_eq_true rfl, ?_⟩
  show am_W (am_CC 6) dt_X5_setting 6 0 none (am_QI Q) (am_qx 105 X) (0, 0, [(0, .inr (.inl (some 0))), (1, .inl (a0))], [], M)
  have hX : ∀ E M, X E M → am_qx 105 X E M := fun E M q => ⟨⟨rfl, by decide⟩, q⟩
  refine am_Wrun 1 (ps := []) (pc' := 1) (lv' := [(0, .inr (.inl (some 0))), (1, .inl (a0))]) (st' := [.inl (a0)]) (M' := M) rfl trivial ?_
  refine am_WcallS (y := 92) (n := 1) (f := 4) (co := 0) (as := [.inl (a0)]) (st' := []) rfl rfl rfl rfl rfl rfl rfl rfl rfl (Nat.zero_le _) rfl (am_CC_le (Nat.le_of_ble_eq_true rfl) (tm_X5_refuseNoSetting h)) (fun r M1 q => ?_) (fun E M q => hX _ _ q)
  obtain ⟨rfl, h⟩ := q
  obtain ⟨c0_0, h⟩ := h
  refine am_Wrun 5 (ps := [0 ≤ (a0 : Int) ∧ (a0 : Int) < 3]) (pc' := 13) (lv' := [(0, .inr (.inl (some 0))), (1, .inl (a0))]) (st' := [.inl (M1 6 a0)]) (M' := M1) rfl ⟨c0_0, trivial⟩ ?_
  exact am_Wreti rfl rfl h
abbrev dt_L_setting : am_D := (tk_L_setting, 9, 4, some .int, tb_hn 216)
def wp_L_setting (a1 : Int) (M : am_M) (Q : Int → am_M → Prop) : Prop := wp_X5_setting a1 M (fun x1 M2 => (am_rg x1) ∧ (Q 0 (am_up M2 80 0 x1))) (fun E M3 => (E = 2 ∧ Q 1 M3))
set_option maxRecDepth 20000 in
theorem tm_L_setting {a1 : Int} {M : am_M} {Q : Int → am_M → Prop} (h : wp_L_setting a1 M Q) : am_CC 8 216 [.inr (.inl (some 0)), .inl (a1), .inr (.inl (some 80))] M (am_QI Q) (fun _ _ => False) := by
  refine ⟨Nat.le_of_ble_eq_true rfl, ?_⟩
  show am_W (am_CC 7) dt_L_setting 7 1 none (am_QI Q) (am_qx 216 (fun _ _ => False)) (0, 0, [(0, .inr (.inl (some 0))), (1, .inl (a1)), (2, .inr (.inl (some 80)))], [], M)
  refine am_Wrun 4 (ps := []) (pc' := 4) (lv' := [(0, .inr (.inl (some 0))), (1, .inl (a1)), (2, .inr (.inl (some 80)))]) (st' := [.inl (a1), .inr (.inl (some 0)), .inl (0), .inr (.inl (some 80))]) (M' := M) rfl trivial ?_
  refine am_WcallV (y := 105) (n := 2) (a := 0) (f := 7) (as := [.inl (a1)]) (st' := [.inl (0), .inr (.inl (some 80))]) rfl rfl rfl rfl rfl rfl rfl rfl rfl rfl (Nat.zero_le _) rfl (am_CC_le (Nat.le_of_ble_eq_true rfl) (tm_X5_setting h)) (fun r M2 q => ?_) (fun E M3 q => ?_)
  · obtain ⟨x1, rfl, h⟩ := q
    obtain ⟨c0_0, h⟩ := h
    refine am_Wrun 4 (ps := [am_rg x1, 0 ≤ (0 : Int) ∧ (0 : Int) < 1]) (pc' := 16) (lv' := [(0, .inr (.inl (some 0))), (1, .inl (a1)), (2, .inr (.inl (some 80)))]) (st' := [.inl (0)]) (M' := (am_up M2 80 0 x1)) rfl ⟨c0_0, ⟨by decide, by decide⟩, trivial⟩ ?_
    exact am_Wreti rfl rfl h
  · rcases q with ⟨rfl, h⟩
    · show 0 + 1 ≤ 1 ∧ am_W (am_CC 7) dt_L_setting 7 1 none (am_QI Q) _ (0 + 1, 13, [(0, .inr (.inl (some 0))), (1, .inl (a1)), (2, .inr (.inl (some 80)))], [], M3)
      refine ⟨Nat.le_refl _, ?_⟩
      refine am_Wrun 1 (ps := []) (pc' := 14) (lv' := [(0, .inr (.inl (some 0))), (1, .inl (a1)), (2, .inr (.inl (some 80)))]) (st' := [.inl (1)]) (M' := M3) rfl trivial ?_
      exact am_Wreti rfl rfl h
abbrev dt_X6_setting : am_D := (tk_X6_setting, 6, 2, some .int, tb_hn 184)
def wp_X6_setting (a0 : Int) (M : am_M) (Q : Int → am_M → Prop) : Prop := wp_X6_in a0 0 2 (am_up M 69 5 0) (fun x1 M2 => (am_rg x1) ∧ (x1 = 0 → wp_X6_fails 1 M2 (fun x3 M4 => Q x3 M4)) ∧ (¬ x1 = 0 → (0 ≤ (4 + a0 : Int) ∧ (4 + a0 : Int) < 203) ∧ (Q (M2 70 (4 + a0)) M2)))
set_option maxRecDepth 20000 in
theorem tm_X6_setting {a0 : Int} {M : am_M} {Q : Int → am_M → Prop} (h : wp_X6_setting a0 M Q) : am_CC 2 184 [.inr (.inl (some 69)), .inl (a0)] M (am_QI Q) (fun _ _ => False) := by
  refine ⟨Nat.le_of_ble_eq_true rfl, ?_⟩
  show am_W (am_CC 1) dt_X6_setting 1 0 none (am_QI Q) (am_qx 184 (fun _ _ => False)) (0, 0, [(0, .inr (.inl (some 69))), (1, .inl (a0))], [], M)
  refine am_Wrun 6 (ps := []) (pc' := 8) (lv' := [(0, .inr (.inl (some 69))), (1, .inl (a0))]) (st' := [.inl (2), .inl (0), .inl (a0)]) (M' := (am_up M 69 5 0)) rfl trivial ?_
  refine am_WcallS (y := 112) (n := 3) (f := 11) (co := 0) (as := [.inl (a0), .inl (0), .inl (2)]) (st' := []) rfl rfl rfl rfl rfl rfl rfl rfl rfl (Nat.zero_le _) rfl (am_CC_le (Nat.le_of_ble_eq_true rfl) (tm_X6_in h)) (fun r M2 q => ?_) (fun _ _ q => q.elim)
  obtain ⟨x1, rfl, h⟩ := q
  obtain ⟨b0, ht, hf⟩ := h
  refine am_Wbr (P := [am_rg x1]) (c := x1 = 0) (t := 25) (f := 14) (st' := []) rfl rfl ⟨b0, trivial⟩ rfl (fun q => ?_) (fun q => ?_)
  · have h := ht q
    refine am_Wrun 2 (ps := []) (pc' := 27) (lv' := [(0, .inr (.inl (some 69))), (1, .inl (a0))]) (st' := [.inl (1), .inr (.inl (some 69))]) (M' := M2) rfl trivial ?_
    refine am_WcallV (y := 113) (n := 2) (a := 69) (f := 30) (as := [.inl (1)]) (st' := []) rfl rfl rfl rfl rfl rfl rfl rfl rfl rfl (Nat.zero_le _) rfl (am_CC_le (Nat.le_of_ble_eq_true rfl) (tm_X6_fails h)) (fun r M4 q => ?_) (fun _ _ q => q.elim)
    obtain ⟨x3, rfl, h⟩ := q
    exact am_Wreti rfl rfl h
  · have h := hf q
    obtain ⟨c0_0, h⟩ := h
    refine am_Wrun 7 (ps := [0 ≤ (4 + a0 : Int) ∧ (4 + a0 : Int) < 203]) (pc' := 30) (lv' := [(0, .inr (.inl (some 69))), (1, .inl (a0))]) (st' := [.inl (M2 70 (4 + a0))]) (M' := M2) rfl ⟨c0_0, trivial⟩ ?_
    exact am_Wreti rfl rfl h
abbrev dt_X5_areaBetween : am_D := (tk_X5_areaBetween, 5, 7, some .long, tb_hn 30)
def wj_X5_areaBetween_49 (Q : Int → am_M → Prop) (v1 : Int) (v2 : Int) (v3 : Int) (s0 : Int) (M : am_M) : Prop := (0 ≤ (v2 : Int) ∧ (v2 : Int) < 60) ∧ (0 ≤ (v1 : Int) ∧ (v1 : Int) < 60) ∧ (am_rg ((M 2 v2) - (M 2 v1))) ∧ (Q ((v3 + s0) * ((M 2 v2) - (M 2 v1))) M)
def wp_X5_areaBetween (a0 : Int) (a1 : Int) (M : am_M) (Q : Int → am_M → Prop) : Prop := wp_X2_sameStretch a0 a1 M (fun x1 M2 => (am_rg x1) ∧ (¬ x1 = 0 → (0 ≤ (a0 : Int) ∧ (a0 : Int) < 60) ∧ (am_rg (M2 3 a0)) ∧ (wp_X2_isStep M2 (fun x3 M4 => (am_rg x3) ∧ (x3 = 0 → (0 ≤ (a1 : Int) ∧ (a1 : Int) < 60) ∧ (am_rg (M4 3 a1)) ∧ (wj_X5_areaBetween_49 Q a0 a1 (M2 3 a0) (M4 3 a1) M4)) ∧ (¬ x3 = 0 → wj_X5_areaBetween_49 Q a0 a1 (M2 3 a0) (M2 3 a0) M4)))) ∧ (¬ (¬ x1 = 0) → Q 0 M2))
set_option maxRecDepth 20000 in
theorem tj_X5_areaBetween_49 {Q : Int → am_M → Prop} {QX : am_X} (v1 : Int) (v2 : Int) (v3 : Int) (s0 : Int) (M : am_M) (h : wj_X5_areaBetween_49 Q v1 v2 v3 s0 M) : am_W (am_CC 1) dt_X5_areaBetween 1 0 none (am_QL Q) QX (0, 49, [(0, .inr (.inl (some 0))), (1, .inl (v1)), (2, .inl (v2)), (3, .inr (.inr (.inl (v3))))], [.inr (.inr (.inl (s0)))], M) := by
  obtain ⟨c0_0, c1_0, c2_0, h⟩ := h
  refine am_Wrun 17 (ps := [0 ≤ (v2 : Int) ∧ (v2 : Int) < 60, 0 ≤ (v1 : Int) ∧ (v1 : Int) < 60, am_rg ((M 2 v2) - (M 2 v1))]) (pc' := 76) (lv' := [(5, .inr (.inr (.inl (s0)))), (0, .inr (.inl (some 0))), (1, .inl (v1)), (2, .inl (v2)), (3, .inr (.inr (.inl (v3))))]) (st' := [.inr (.inr (.inl ((v3 + s0) * ((M 2 v2) - (M 2 v1)))))]) (M' := M) rfl ⟨c0_0, c1_0, c2_0, trivial⟩ ?_
  exact am_Wretl rfl rfl h
set_option maxRecDepth 20000 in
theorem tm_X5_areaBetween {a0 a1 : Int} {M : am_M} {Q : Int → am_M → Prop} (h : wp_X5_areaBetween a0 a1 M Q) : am_CC 2 30 [.inr (.inl (some 0)), .inl (a0), .inl (a1)] M (am_QL Q) (fun _ _ => False) := by
  refine ⟨Nat.le_of_ble_eq_true rfl, ?_⟩
  show am_W (am_CC 1) dt_X5_areaBetween 1 0 none (am_QL Q) (am_qx 30 (fun _ _ => False)) (0, 0, [(0, .inr (.inl (some 0))), (1, .inl (a0)), (2, .inl (a1))], [], M)
  refine am_Wrun 4 (ps := []) (pc' := 6) (lv' := [(0, .inr (.inl (some 0))), (1, .inl (a0)), (2, .inl (a1))]) (st' := [.inl (a1), .inl (a0), .inr (.inl (some 1))]) (M' := M) rfl trivial ?_
  refine am_WcallV (y := 12) (n := 3) (a := 1) (f := 9) (as := [.inl (a0), .inl (a1)]) (st' := []) rfl rfl rfl rfl rfl rfl rfl rfl rfl rfl (Nat.zero_le _) rfl (am_CC_le (Nat.le_of_ble_eq_true rfl) (tm_X2_sameStretch h)) (fun r M2 q => ?_) (fun _ _ q => q.elim)
  obtain ⟨x1, rfl, h⟩ := q
  obtain ⟨b0, ht, hf⟩ := h
  refine am_Wbr (P := [am_rg x1]) (c := ¬ x1 = 0) (t := 14) (f := 12) (st' := []) rfl rfl ⟨b0, trivial⟩ rfl (fun q => ?_) (fun q => ?_)
  · have h := ht q
    obtain ⟨c0_0, c1_0, h⟩ := h
    refine am_Wrun 9 (ps := [0 ≤ (a0 : Int) ∧ (a0 : Int) < 60, am_rg (M2 3 a0)]) (pc' := 29) (lv' := [(3, .inr (.inr (.inl (M2 3 a0)))), (0, .inr (.inl (some 0))), (1, .inl (a0)), (2, .inl (a1))]) (st' := [.inr (.inl (some 1))]) (M' := M2) rfl ⟨c0_0, c1_0, trivial⟩ ?_
    refine am_WcallV (y := 16) (n := 1) (a := 1) (f := 32) (as := []) (st' := []) rfl rfl rfl rfl rfl rfl rfl rfl rfl rfl (Nat.zero_le _) rfl (am_CC_le (Nat.le_of_ble_eq_true rfl) (tm_X2_isStep h)) (fun r M4 q => ?_) (fun _ _ q => q.elim)
    obtain ⟨x3, rfl, h⟩ := q
    obtain ⟨b0, ht, hf⟩ := h
    refine am_Wbr (P := [am_rg x3]) (c := x3 = 0) (t := 39) (f := 35) (st' := []) rfl rfl ⟨b0, trivial⟩ rfl (fun q => ?_) (fun q => ?_)
    · have h := ht q
      obtain ⟨c0_0, c1_0, h⟩ := h
      refine am_Wrun 6 (ps := [0 ≤ (a1 : Int) ∧ (a1 : Int) < 60, am_rg (M4 3 a1)]) (pc' := 49) (lv' := [(3, .inr (.inr (.inl (M2 3 a0)))), (0, .inr (.inl (some 0))), (1, .inl (a0)), (2, .inl (a1))]) (st' := [.inr (.inr (.inl (M4 3 a1)))]) (M' := M4) rfl ⟨c0_0, c1_0, trivial⟩ ?_
      refine am_W_sub [1, 2, 3, 0] rfl ?_
      exact tj_X5_areaBetween_49 a0 a1 (M2 3 a0) (M4 3 a1) M4 h
    · have h := hf q
      refine am_Wrun 2 (ps := []) (pc' := 49) (lv' := [(3, .inr (.inr (.inl (M2 3 a0)))), (0, .inr (.inl (some 0))), (1, .inl (a0)), (2, .inl (a1))]) (st' := [.inr (.inr (.inl (M2 3 a0)))]) (M' := M4) rfl trivial ?_
      refine am_W_sub [1, 2, 3, 0] rfl ?_
      exact tj_X5_areaBetween_49 a0 a1 (M2 3 a0) (M2 3 a0) M4 h
  · have h := hf q
    refine am_Wrun 1 (ps := []) (pc' := 13) (lv' := [(0, .inr (.inl (some 0))), (1, .inl (a0)), (2, .inl (a1))]) (st' := [.inr (.inr (.inl (0)))]) (M' := M2) rfl trivial ?_
    exact am_Wretl rfl rfl h
abbrev dt_X5_area : am_D := (tk_X5_area, 5, 6, some .long, tb_hn 29)
def wj_X5_area_37 (Q : Int → am_M → Prop) (k9 : Int → Int → Int → Int → am_M → Prop) (v1 : Int) (v2 : Int) (v4 : Int) (v5 : Int) (M : am_M) : Prop := wp_X5_areaBetween v4 v5 M (fun x1 M2 => k9 v1 (v2 + x1) v5 (v5 + 1) M2)
def wl_X5_area_9 (Q : Int → am_M → Prop) : Nat → Int → Int → Int → Int → am_M → Prop
  | 0, _, _, _, _, _ => False
  | n + 1, v1, v2, v4, v5, M => (am_rg v5) ∧ (am_rg (M 1 7)) ∧ ((M 1 7) ≤ v5 → Q v2 M) ∧ (¬ (M 1 7) ≤ v5 → (am_rg v1) ∧ (¬ v1 = 0 → wj_X5_area_37 Q (wl_X5_area_9 Q n) v1 v2 v4 v5 M) ∧ (¬ (¬ v1 = 0) → wp_X2_isKept v5 M (fun x3 M4 => (am_rg x3) ∧ (x3 = 0 → wl_X5_area_9 Q n v1 v2 v4 (v5 + 1) M4) ∧ (¬ x3 = 0 → wj_X5_area_37 Q (wl_X5_area_9 Q n) v1 v2 v4 v5 M4))))
def wp_X5_area (a0 : Int) (M : am_M) (Q : Int → am_M → Prop) : Prop := ∃ e9, wl_X5_area_9 Q e9 a0 0 (-1000000) 0 M
set_option maxRecDepth 20000 in
theorem tj_X5_area_37 {Q : Int → am_M → Prop} {QX : am_X} {k9 : Int → Int → Int → Int → am_M → Prop} (hk9 : ∀ (v1 : Int) (v2 : Int) (v4 : Int) (v5 : Int) (M : am_M), k9 v1 v2 v4 v5 M → am_W (am_CC 2) dt_X5_area 2 0 none (am_QL Q) QX (0, 9, [(0, .inr (.inl (some 0))), (1, .inl (v1)), (2, .inr (.inr (.inl (v2)))), (4, .inl (v4)), (5, .inl (v5))], [], M)) (v1 : Int) (v2 : Int) (v4 : Int) (v5 : Int) (M : am_M) (h : wj_X5_area_37 Q k9 v1 v2 v4 v5 M) : am_W (am_CC 2) dt_X5_area 2 0 none (am_QL Q) QX (0, 37, [(0, .inr (.inl (some 0))), (1, .inl (v1)), (2, .inr (.inr (.inl (v2)))), (4, .inl (v4)), (5, .inl (v5))], [], M) := by
  refine am_Wrun 4 (ps := []) (pc' := 43) (lv' := [(0, .inr (.inl (some 0))), (1, .inl (v1)), (2, .inr (.inr (.inl (v2)))), (4, .inl (v4)), (5, .inl (v5))]) (st' := [.inl (v5), .inl (v4), .inr (.inl (some 0)), .inr (.inr (.inl (v2)))]) (M' := M) rfl trivial ?_
  refine am_WcallV (y := 30) (n := 3) (a := 0) (f := 46) (as := [.inl (v4), .inl (v5)]) (st' := [.inr (.inr (.inl (v2)))]) rfl rfl rfl rfl rfl rfl rfl rfl rfl rfl (Nat.zero_le _) rfl (am_CC_le (Nat.le_of_ble_eq_true rfl) (tm_X5_areaBetween h)) (fun r M2 q => ?_) (fun _ _ q => q.elim)
  obtain ⟨x1, rfl, h⟩ := q
  refine am_Wrun 6 (ps := []) (pc' := 9) (lv' := [(5, .inl (v5 + 1)), (4, .inl (v5)), (2, .inr (.inr (.inl (v2 + x1)))), (0, .inr (.inl (some 0))), (1, .inl (v1))]) (st' := []) (M' := M2) rfl trivial ?_
  refine am_W_sub [3, 4, 2, 1, 0] rfl ?_
  exact hk9 v1 (v2 + x1) v5 (v5 + 1) M2 h
set_option maxRecDepth 20000 in
theorem tw_X5_area_9 {Q : Int → am_M → Prop} {QX : am_X} : ∀ (n : Nat) (v1 : Int) (v2 : Int) (v4 : Int) (v5 : Int) (M : am_M), wl_X5_area_9 Q n v1 v2 v4 v5 M → am_W (am_CC 2) dt_X5_area 2 0 none (am_QL Q) QX (0, 9, [(0, .inr (.inl (some 0))), (1, .inl (v1)), (2, .inr (.inr (.inl (v2)))), (4, .inl (v4)), (5, .inl (v5))], [], M)
  | 0, _, _, _, _, _, h => h.elim
  | n + 1, v1, v2, v4, v5, M, h => by
    refine am_Wrun 4 (ps := []) (pc' := 18) (lv' := [(0, .inr (.inl (some 0))), (1, .inl (v1)), (2, .inr (.inr (.inl (v2)))), (4, .inl (v4)), (5, .inl (v5))]) (st' := [.inl (M 1 7), .inl (v5)]) (M' := M) rfl trivial ?_
    obtain ⟨b0, b1, ht, hf⟩ := h
    refine am_Wbr (P := [am_rg v5, am_rg (M 1 7)]) (c := (M 1 7) ≤ v5) (t := 58) (f := 21) (st' := []) rfl rfl ⟨b0, b1, trivial⟩ rfl (fun q => ?_) (fun q => ?_)
    · have h := ht q
      refine am_Wrun 1 (ps := []) (pc' := 59) (lv' := [(0, .inr (.inl (some 0))), (1, .inl (v1)), (2, .inr (.inr (.inl (v2)))), (4, .inl (v4)), (5, .inl (v5))]) (st' := [.inr (.inr (.inl (v2)))]) (M' := M) rfl trivial ?_
      exact am_Wretl rfl rfl h
    · have h := hf q
      refine am_Wrun 1 (ps := []) (pc' := 22) (lv' := [(0, .inr (.inl (some 0))), (1, .inl (v1)), (2, .inr (.inr (.inl (v2)))), (4, .inl (v4)), (5, .inl (v5))]) (st' := [.inl (v1)]) (M' := M) rfl trivial ?_
      obtain ⟨b0, ht, hf⟩ := h
      refine am_Wbr (P := [am_rg v1]) (c := ¬ v1 = 0) (t := 37) (f := 25) (st' := []) rfl rfl ⟨b0, trivial⟩ rfl (fun q => ?_) (fun q => ?_)
      · have h := ht q
        refine am_W_sub [0, 1, 2, 3, 4] rfl ?_
        exact tj_X5_area_37 (tw_X5_area_9 n) v1 v2 v4 v5 M h
      · have h := hf q
        refine am_Wrun 3 (ps := []) (pc' := 31) (lv' := [(0, .inr (.inl (some 0))), (1, .inl (v1)), (2, .inr (.inr (.inl (v2)))), (4, .inl (v4)), (5, .inl (v5))]) (st' := [.inl (v5), .inr (.inl (some 1))]) (M' := M) rfl trivial ?_
        refine am_WcallV (y := 8) (n := 2) (a := 1) (f := 34) (as := [.inl (v5)]) (st' := []) rfl rfl rfl rfl rfl rfl rfl rfl rfl rfl (Nat.zero_le _) rfl (am_CC_le (Nat.le_of_ble_eq_true rfl) (tm_X2_isKept h)) (fun r M4 q => ?_) (fun _ _ q => q.elim)
        obtain ⟨x3, rfl, h⟩ := q
        obtain ⟨b0, ht, hf⟩ := h
        refine am_Wbr (P := [am_rg x3]) (c := x3 = 0) (t := 52) (f := 37) (st' := []) rfl rfl ⟨b0, trivial⟩ rfl (fun q => ?_) (fun q => ?_)
        · have h := ht q
          refine am_Wrun 2 (ps := []) (pc' := 9) (lv' := [(5, .inl (v5 + 1)), (0, .inr (.inl (some 0))), (1, .inl (v1)), (2, .inr (.inr (.inl (v2)))), (4, .inl (v4))]) (st' := []) (M' := M4) rfl trivial ?_
          refine am_W_sub [1, 2, 3, 4, 0] rfl ?_
          exact tw_X5_area_9 n v1 v2 v4 (v5 + 1) M4 h
        · have h := hf q
          refine am_W_sub [0, 1, 2, 3, 4] rfl ?_
          exact tj_X5_area_37 (tw_X5_area_9 n) v1 v2 v4 v5 M4 h
set_option maxRecDepth 20000 in
theorem tm_X5_area {a0 : Int} {M : am_M} {Q : Int → am_M → Prop} (h : wp_X5_area a0 M Q) : am_CC 3 29 [.inr (.inl (some 0)), .inl (a0)] M (am_QL Q) (fun _ _ => False) := by
  refine ⟨Nat.le_of_ble_eq_true rfl, ?_⟩
  show am_W (am_CC 2) dt_X5_area 2 0 none (am_QL Q) (am_qx 29 (fun _ _ => False)) (0, 0, [(0, .inr (.inl (some 0))), (1, .inl (a0))], [], M)
  refine am_Wrun 6 (ps := []) (pc' := 9) (lv' := [(5, .inl (0)), (4, .inl ((-1000000))), (2, .inr (.inr (.inl (0)))), (0, .inr (.inl (some 0))), (1, .inl (a0))]) (st' := []) (M' := M) rfl trivial ?_
  refine am_W_sub [3, 4, 2, 1, 0] rfl ?_
  obtain ⟨n9, h⟩ := h
  exact tw_X5_area_9 n9 a0 0 (-1000000) 0 M h
abbrev dt_X6_area : am_D := (tk_X6_area, 6, 7, some .long, tb_hn 185)
def wj_X6_area_128 (Q : Int → am_M → Prop) (k13 : Int → Int → Int → Int → am_M → Prop) (v1 : Int) (v5 : Int) (s0 : Int) (s1 : Int) (M : am_M) : Prop := k13 v1 (s1 + s0) v5 (v5 + 1) M
def wj_X6_area_98 (Q : Int → am_M → Prop) (k13 : Int → Int → Int → Int → am_M → Prop) (v1 : Int) (v2 : Int) (v4 : Int) (v5 : Int) (s0 : Int) (M : am_M) : Prop := (am_rg v4) ∧ (0 ≤ v4 → (am_rg s0) ∧ (wp_X6_time v5 M (fun x7 M8 => wp_X6_time v4 M8 (fun x9 M10 => (am_rg (x7 - x9)) ∧ (wj_X6_area_128 Q k13 v1 v5 (s0 * (x7 - x9)) v2 M10))))) ∧ (¬ 0 ≤ v4 → wj_X6_area_128 Q k13 v1 v5 0 v2 M)
def wj_X6_area_54 (Q : Int → am_M → Prop) (k13 : Int → Int → Int → Int → am_M → Prop) (v1 : Int) (v2 : Int) (v4 : Int) (v5 : Int) (M : am_M) : Prop := (am_rg v4) ∧ (0 ≤ v4 → (am_rg (M 70 6)) ∧ (¬ (M 70 6) = 1 → wp_X6_value v4 M (fun x3 M4 => wp_X6_value v5 M4 (fun x5 M6 => wj_X6_area_98 Q k13 v1 v2 v4 v5 (x3 + x5) M6))) ∧ (¬ (¬ (M 70 6) = 1) → wp_X6_value v4 M (fun x11 M12 => wj_X6_area_98 Q k13 v1 v2 v4 v5 (2 * x11) M12))) ∧ (¬ 0 ≤ v4 → wj_X6_area_98 Q k13 v1 v2 v4 v5 0 M)
def wj_X6_area_39 (Q : Int → am_M → Prop) (k13 : Int → Int → Int → Int → am_M → Prop) (v1 : Int) (v2 : Int) (v5 : Int) (s0 : Int) (M : am_M) : Prop := (am_rg v1) ∧ (¬ v1 = 0 → wj_X6_area_54 Q k13 v1 v2 s0 v5 M) ∧ (¬ (¬ v1 = 0) → wp_X6_isKept v5 M (fun x13 M14 => (am_rg x13) ∧ (x13 = 0 → k13 v1 v2 s0 (v5 + 1) M14) ∧ (¬ x13 = 0 → wj_X6_area_54 Q k13 v1 v2 s0 v5 M14)))
def wl_X6_area_13 (Q : Int → am_M → Prop) : Nat → Int → Int → Int → Int → am_M → Prop
  | 0, _, _, _, _, _ => False
  | n + 1, v1, v2, v4, v5, M => (am_rg v5) ∧ (am_rg (M 70 0)) ∧ ((M 70 0) ≤ v5 → Q v2 M) ∧ (¬ (M 70 0) ≤ v5 → wp_X6_isFirst v5 M (fun x1 M2 => (am_rg x1) ∧ (x1 = 0 → wj_X6_area_39 Q (wl_X6_area_13 Q n) v1 v2 v5 v4 M2) ∧ (¬ x1 = 0 → wj_X6_area_39 Q (wl_X6_area_13 Q n) v1 v2 v5 (-1) M2)))
def wp_X6_area (a0 : Int) (M : am_M) (Q : Int → am_M → Prop) : Prop := ∃ e13, wl_X6_area_13 Q e13 a0 0 (-1) 0 (am_up M 69 5 0)
set_option maxRecDepth 20000 in
theorem tj_X6_area_128 {Q : Int → am_M → Prop} {QX : am_X} {k13 : Int → Int → Int → Int → am_M → Prop} (hk13 : ∀ (v1 : Int) (v2 : Int) (v4 : Int) (v5 : Int) (M : am_M), k13 v1 v2 v4 v5 M → am_W (am_CC 2) dt_X6_area 2 0 none (am_QL Q) QX (0, 13, [(0, .inr (.inl (some 69))), (1, .inl (v1)), (2, .inr (.inr (.inl (v2)))), (4, .inl (v4)), (5, .inl (v5))], [], M)) (v1 : Int) (v5 : Int) (s0 : Int) (s1 : Int) (M : am_M) (h : wj_X6_area_128 Q k13 v1 v5 s0 s1 M) : am_W (am_CC 2) dt_X6_area 2 0 none (am_QL Q) QX (0, 128, [(0, .inr (.inl (some 69))), (1, .inl (v1)), (5, .inl (v5))], [.inr (.inr (.inl (s0))), .inr (.inr (.inl (s1)))], M) := by
  refine am_Wrun 6 (ps := []) (pc' := 13) (lv' := [(5, .inl (v5 + 1)), (4, .inl (v5)), (2, .inr (.inr (.inl (s1 + s0)))), (0, .inr (.inl (some 69))), (1, .inl (v1))]) (st' := []) (M' := M) rfl trivial ?_
  refine am_W_sub [3, 4, 2, 1, 0] rfl ?_
  exact hk13 v1 (s1 + s0) v5 (v5 + 1) M h
set_option maxRecDepth 20000 in
theorem tj_X6_area_98 {Q : Int → am_M → Prop} {QX : am_X} {k13 : Int → Int → Int → Int → am_M → Prop} (hk13 : ∀ (v1 : Int) (v2 : Int) (v4 : Int) (v5 : Int) (M : am_M), k13 v1 v2 v4 v5 M → am_W (am_CC 2) dt_X6_area 2 0 none (am_QL Q) QX (0, 13, [(0, .inr (.inl (some 69))), (1, .inl (v1)), (2, .inr (.inr (.inl (v2)))), (4, .inl (v4)), (5, .inl (v5))], [], M)) (v1 : Int) (v2 : Int) (v4 : Int) (v5 : Int) (s0 : Int) (M : am_M) (h : wj_X6_area_98 Q k13 v1 v2 v4 v5 s0 M) : am_W (am_CC 2) dt_X6_area 2 0 none (am_QL Q) QX (0, 98, [(0, .inr (.inl (some 69))), (1, .inl (v1)), (2, .inr (.inr (.inl (v2)))), (4, .inl (v4)), (5, .inl (v5))], [.inl (s0)], M) := by
  refine am_Wrun 3 (ps := []) (pc' := 103) (lv' := [(6, .inl (s0)), (0, .inr (.inl (some 69))), (1, .inl (v1)), (2, .inr (.inr (.inl (v2)))), (4, .inl (v4)), (5, .inl (v5))]) (st' := [.inl (v4), .inr (.inr (.inl (v2)))]) (M' := M) rfl trivial ?_
  obtain ⟨b0, ht, hf⟩ := h
  refine am_Wbr (P := [am_rg v4]) (c := 0 ≤ v4) (t := 110) (f := 106) (st' := [.inr (.inr (.inl (v2)))]) rfl rfl ⟨b0, trivial⟩ rfl (fun q => ?_) (fun q => ?_)
  · have h := ht q
    obtain ⟨c0_0, h⟩ := h
    refine am_Wrun 4 (ps := [am_rg s0]) (pc' := 116) (lv' := [(6, .inl (s0)), (0, .inr (.inl (some 69))), (1, .inl (v1)), (2, .inr (.inr (.inl (v2)))), (4, .inl (v4)), (5, .inl (v5))]) (st' := [.inl (v5), .inr (.inl (some 69)), .inr (.inr (.inl (s0))), .inr (.inr (.inl (v2)))]) (M' := M) rfl ⟨c0_0, trivial⟩ ?_
    refine am_WcallV (y := 115) (n := 2) (a := 69) (f := 119) (as := [.inl (v5)]) (st' := [.inr (.inr (.inl (s0))), .inr (.inr (.inl (v2)))]) rfl rfl rfl rfl rfl rfl rfl rfl rfl rfl (Nat.zero_le _) rfl (am_CC_le (Nat.le_of_ble_eq_true rfl) (tm_X6_time h)) (fun r M8 q => ?_) (fun _ _ q => q.elim)
    obtain ⟨x7, rfl, h⟩ := q
    refine am_Wrun 2 (ps := []) (pc' := 122) (lv' := [(6, .inl (s0)), (0, .inr (.inl (some 69))), (1, .inl (v1)), (2, .inr (.inr (.inl (v2)))), (4, .inl (v4)), (5, .inl (v5))]) (st' := [.inl (v4), .inr (.inl (some 69)), .inl (x7), .inr (.inr (.inl (s0))), .inr (.inr (.inl (v2)))]) (M' := M8) rfl trivial ?_
    refine am_WcallV (y := 115) (n := 2) (a := 69) (f := 125) (as := [.inl (v4)]) (st' := [.inl (x7), .inr (.inr (.inl (s0))), .inr (.inr (.inl (v2)))]) rfl rfl rfl rfl rfl rfl rfl rfl rfl rfl (Nat.zero_le _) rfl (am_CC_le (Nat.le_of_ble_eq_true rfl) (tm_X6_time h)) (fun r M10 q => ?_) (fun _ _ q => q.elim)
    obtain ⟨x9, rfl, h⟩ := q
    obtain ⟨c0_0, h⟩ := h
    refine am_Wrun 3 (ps := [am_rg (x7 - x9)]) (pc' := 128) (lv' := [(6, .inl (s0)), (0, .inr (.inl (some 69))), (1, .inl (v1)), (2, .inr (.inr (.inl (v2)))), (4, .inl (v4)), (5, .inl (v5))]) (st' := [.inr (.inr (.inl (s0 * (x7 - x9)))), .inr (.inr (.inl (v2)))]) (M' := M10) rfl ⟨c0_0, trivial⟩ ?_
    refine am_W_sub [1, 2, 5] rfl ?_
    exact tj_X6_area_128 hk13 v1 v5 (s0 * (x7 - x9)) v2 M10 h
  · have h := hf q
    refine am_Wrun 2 (ps := []) (pc' := 128) (lv' := [(6, .inl (s0)), (0, .inr (.inl (some 69))), (1, .inl (v1)), (2, .inr (.inr (.inl (v2)))), (4, .inl (v4)), (5, .inl (v5))]) (st' := [.inr (.inr (.inl (0))), .inr (.inr (.inl (v2)))]) (M' := M) rfl trivial ?_
    refine am_W_sub [1, 2, 5] rfl ?_
    exact tj_X6_area_128 hk13 v1 v5 0 v2 M h
set_option maxRecDepth 20000 in
theorem tj_X6_area_54 {Q : Int → am_M → Prop} {QX : am_X} {k13 : Int → Int → Int → Int → am_M → Prop} (hk13 : ∀ (v1 : Int) (v2 : Int) (v4 : Int) (v5 : Int) (M : am_M), k13 v1 v2 v4 v5 M → am_W (am_CC 2) dt_X6_area 2 0 none (am_QL Q) QX (0, 13, [(0, .inr (.inl (some 69))), (1, .inl (v1)), (2, .inr (.inr (.inl (v2)))), (4, .inl (v4)), (5, .inl (v5))], [], M)) (v1 : Int) (v2 : Int) (v4 : Int) (v5 : Int) (M : am_M) (h : wj_X6_area_54 Q k13 v1 v2 v4 v5 M) : am_W (am_CC 2) dt_X6_area 2 0 none (am_QL Q) QX (0, 54, [(0, .inr (.inl (some 69))), (1, .inl (v1)), (2, .inr (.inr (.inl (v2)))), (4, .inl (v4)), (5, .inl (v5))], [], M) := by
  refine am_Wrun 1 (ps := []) (pc' := 56) (lv' := [(0, .inr (.inl (some 69))), (1, .inl (v1)), (2, .inr (.inr (.inl (v2)))), (4, .inl (v4)), (5, .inl (v5))]) (st' := [.inl (v4)]) (M' := M) rfl trivial ?_
  obtain ⟨b0, ht, hf⟩ := h
  refine am_Wbr (P := [am_rg v4]) (c := 0 ≤ v4) (t := 63) (f := 59) (st' := []) rfl rfl ⟨b0, trivial⟩ rfl (fun q => ?_) (fun q => ?_)
  · have h := ht q
    refine am_Wrun 5 (ps := [-128 ≤ (6 : Int) ∧ (6 : Int) ≤ 127, 0 ≤ (6 : Int) ∧ (6 : Int) < 203]) (pc' := 71) (lv' := [(0, .inr (.inl (some 69))), (1, .inl (v1)), (2, .inr (.inr (.inl (v2)))), (4, .inl (v4)), (5, .inl (v5))]) (st' := [.inl (1), .inl (M 70 6)]) (M' := M) rfl ⟨⟨by decide, by decide⟩, ⟨by decide, by decide⟩, trivial⟩ ?_
    obtain ⟨b0, ht, hf⟩ := h
    refine am_Wbr (P := [am_rg (M 70 6), am_rg 1]) (c := ¬ (M 70 6) = 1) (t := 85) (f := 74) (st' := []) rfl rfl ⟨b0, (am_rgd rfl), trivial⟩ rfl (fun q => ?_) (fun q => ?_)
    · have h := ht q
      refine am_Wrun 2 (ps := []) (pc' := 88) (lv' := [(0, .inr (.inl (some 69))), (1, .inl (v1)), (2, .inr (.inr (.inl (v2)))), (4, .inl (v4)), (5, .inl (v5))]) (st' := [.inl (v4), .inr (.inl (some 69))]) (M' := M) rfl trivial ?_
      refine am_WcallV (y := 120) (n := 2) (a := 69) (f := 91) (as := [.inl (v4)]) (st' := []) rfl rfl rfl rfl rfl rfl rfl rfl rfl rfl (Nat.zero_le _) rfl (am_CC_le (Nat.le_of_ble_eq_true rfl) (tm_X6_value h)) (fun r M4 q => ?_) (fun _ _ q => q.elim)
      obtain ⟨x3, rfl, h⟩ := q
      refine am_Wrun 2 (ps := []) (pc' := 94) (lv' := [(0, .inr (.inl (some 69))), (1, .inl (v1)), (2, .inr (.inr (.inl (v2)))), (4, .inl (v4)), (5, .inl (v5))]) (st' := [.inl (v5), .inr (.inl (some 69)), .inl (x3)]) (M' := M4) rfl trivial ?_
      refine am_WcallV (y := 120) (n := 2) (a := 69) (f := 97) (as := [.inl (v5)]) (st' := [.inl (x3)]) rfl rfl rfl rfl rfl rfl rfl rfl rfl rfl (Nat.zero_le _) rfl (am_CC_le (Nat.le_of_ble_eq_true rfl) (tm_X6_value h)) (fun r M6 q => ?_) (fun _ _ q => q.elim)
      obtain ⟨x5, rfl, h⟩ := q
      refine am_Wrun 1 (ps := []) (pc' := 98) (lv' := [(0, .inr (.inl (some 69))), (1, .inl (v1)), (2, .inr (.inr (.inl (v2)))), (4, .inl (v4)), (5, .inl (v5))]) (st' := [.inl (x3 + x5)]) (M' := M6) rfl trivial ?_
      refine am_W_sub [0, 1, 2, 3, 4] rfl ?_
      exact tj_X6_area_98 hk13 v1 v2 v4 v5 (x3 + x5) M6 h
    · have h := hf q
      refine am_Wrun 3 (ps := []) (pc' := 78) (lv' := [(0, .inr (.inl (some 69))), (1, .inl (v1)), (2, .inr (.inr (.inl (v2)))), (4, .inl (v4)), (5, .inl (v5))]) (st' := [.inl (v4), .inr (.inl (some 69)), .inl (2)]) (M' := M) rfl trivial ?_
      refine am_WcallV (y := 120) (n := 2) (a := 69) (f := 81) (as := [.inl (v4)]) (st' := [.inl (2)]) rfl rfl rfl rfl rfl rfl rfl rfl rfl rfl (Nat.zero_le _) rfl (am_CC_le (Nat.le_of_ble_eq_true rfl) (tm_X6_value h)) (fun r M12 q => ?_) (fun _ _ q => q.elim)
      obtain ⟨x11, rfl, h⟩ := q
      refine am_Wrun 2 (ps := []) (pc' := 98) (lv' := [(0, .inr (.inl (some 69))), (1, .inl (v1)), (2, .inr (.inr (.inl (v2)))), (4, .inl (v4)), (5, .inl (v5))]) (st' := [.inl (2 * x11)]) (M' := M12) rfl trivial ?_
      refine am_W_sub [0, 1, 2, 3, 4] rfl ?_
      exact tj_X6_area_98 hk13 v1 v2 v4 v5 (2 * x11) M12 h
  · have h := hf q
    refine am_Wrun 2 (ps := []) (pc' := 98) (lv' := [(0, .inr (.inl (some 69))), (1, .inl (v1)), (2, .inr (.inr (.inl (v2)))), (4, .inl (v4)), (5, .inl (v5))]) (st' := [.inl (0)]) (M' := M) rfl trivial ?_
    refine am_W_sub [0, 1, 2, 3, 4] rfl ?_
    exact tj_X6_area_98 hk13 v1 v2 v4 v5 0 M h
set_option maxRecDepth 20000 in
theorem tj_X6_area_39 {Q : Int → am_M → Prop} {QX : am_X} {k13 : Int → Int → Int → Int → am_M → Prop} (hk13 : ∀ (v1 : Int) (v2 : Int) (v4 : Int) (v5 : Int) (M : am_M), k13 v1 v2 v4 v5 M → am_W (am_CC 2) dt_X6_area 2 0 none (am_QL Q) QX (0, 13, [(0, .inr (.inl (some 69))), (1, .inl (v1)), (2, .inr (.inr (.inl (v2)))), (4, .inl (v4)), (5, .inl (v5))], [], M)) (v1 : Int) (v2 : Int) (v5 : Int) (s0 : Int) (M : am_M) (h : wj_X6_area_39 Q k13 v1 v2 v5 s0 M) : am_W (am_CC 2) dt_X6_area 2 0 none (am_QL Q) QX (0, 39, [(0, .inr (.inl (some 69))), (1, .inl (v1)), (2, .inr (.inr (.inl (v2)))), (5, .inl (v5))], [.inl (s0)], M) := by
  refine am_Wrun 2 (ps := []) (pc' := 42) (lv' := [(4, .inl (s0)), (0, .inr (.inl (some 69))), (1, .inl (v1)), (2, .inr (.inr (.inl (v2)))), (5, .inl (v5))]) (st' := [.inl (v1)]) (M' := M) rfl trivial ?_
  obtain ⟨b0, ht, hf⟩ := h
  refine am_Wbr (P := [am_rg v1]) (c := ¬ v1 = 0) (t := 54) (f := 45) (st' := []) rfl rfl ⟨b0, trivial⟩ rfl (fun q => ?_) (fun q => ?_)
  · have h := ht q
    refine am_W_sub [1, 2, 3, 0, 4] rfl ?_
    exact tj_X6_area_54 hk13 v1 v2 s0 v5 M h
  · have h := hf q
    refine am_Wrun 2 (ps := []) (pc' := 48) (lv' := [(4, .inl (s0)), (0, .inr (.inl (some 69))), (1, .inl (v1)), (2, .inr (.inr (.inl (v2)))), (5, .inl (v5))]) (st' := [.inl (v5), .inr (.inl (some 69))]) (M' := M) rfl trivial ?_
    refine am_WcallV (y := 123) (n := 2) (a := 69) (f := 51) (as := [.inl (v5)]) (st' := []) rfl rfl rfl rfl rfl rfl rfl rfl rfl rfl (Nat.zero_le _) rfl (am_CC_le (Nat.le_of_ble_eq_true rfl) (tm_X6_isKept h)) (fun r M14 q => ?_) (fun _ _ q => q.elim)
    obtain ⟨x13, rfl, h⟩ := q
    obtain ⟨b0, ht, hf⟩ := h
    refine am_Wbr (P := [am_rg x13]) (c := x13 = 0) (t := 134) (f := 54) (st' := []) rfl rfl ⟨b0, trivial⟩ rfl (fun q => ?_) (fun q => ?_)
    · have h := ht q
      refine am_Wrun 2 (ps := []) (pc' := 13) (lv' := [(5, .inl (v5 + 1)), (4, .inl (s0)), (0, .inr (.inl (some 69))), (1, .inl (v1)), (2, .inr (.inr (.inl (v2))))]) (st' := []) (M' := M14) rfl trivial ?_
      refine am_W_sub [2, 3, 4, 1, 0] rfl ?_
      exact hk13 v1 v2 s0 (v5 + 1) M14 h
    · have h := hf q
      refine am_W_sub [1, 2, 3, 0, 4] rfl ?_
      exact tj_X6_area_54 hk13 v1 v2 s0 v5 M14 h
set_option maxRecDepth 20000 in
theorem tw_X6_area_13 {Q : Int → am_M → Prop} {QX : am_X} : ∀ (n : Nat) (v1 : Int) (v2 : Int) (v4 : Int) (v5 : Int) (M : am_M), wl_X6_area_13 Q n v1 v2 v4 v5 M → am_W (am_CC 2) dt_X6_area 2 0 none (am_QL Q) QX (0, 13, [(0, .inr (.inl (some 69))), (1, .inl (v1)), (2, .inr (.inr (.inl (v2)))), (4, .inl (v4)), (5, .inl (v5))], [], M)
  | 0, _, _, _, _, _, h => h.elim
  | n + 1, v1, v2, v4, v5, M, h => by
    refine am_Wrun 5 (ps := [0 ≤ (0 : Int) ∧ (0 : Int) < 203]) (pc' := 21) (lv' := [(0, .inr (.inl (some 69))), (1, .inl (v1)), (2, .inr (.inr (.inl (v2)))), (4, .inl (v4)), (5, .inl (v5))]) (st' := [.inl (M 70 0), .inl (v5)]) (M' := M) rfl ⟨⟨by decide, by decide⟩, trivial⟩ ?_
    obtain ⟨b0, b1, ht, hf⟩ := h
    refine am_Wbr (P := [am_rg v5, am_rg (M 70 0)]) (c := (M 70 0) ≤ v5) (t := 140) (f := 24) (st' := []) rfl rfl ⟨b0, b1, trivial⟩ rfl (fun q => ?_) (fun q => ?_)
    · have h := ht q
      refine am_Wrun 1 (ps := []) (pc' := 141) (lv' := [(0, .inr (.inl (some 69))), (1, .inl (v1)), (2, .inr (.inr (.inl (v2)))), (4, .inl (v4)), (5, .inl (v5))]) (st' := [.inr (.inr (.inl (v2)))]) (M' := M) rfl trivial ?_
      exact am_Wretl rfl rfl h
    · have h := hf q
      refine am_Wrun 2 (ps := []) (pc' := 27) (lv' := [(0, .inr (.inl (some 69))), (1, .inl (v1)), (2, .inr (.inr (.inl (v2)))), (4, .inl (v4)), (5, .inl (v5))]) (st' := [.inl (v5), .inr (.inl (some 69))]) (M' := M) rfl trivial ?_
      refine am_WcallV (y := 127) (n := 2) (a := 69) (f := 30) (as := [.inl (v5)]) (st' := []) rfl rfl rfl rfl rfl rfl rfl rfl rfl rfl (Nat.zero_le _) rfl (am_CC_le (Nat.le_of_ble_eq_true rfl) (tm_X6_isFirst h)) (fun r M2 q => ?_) (fun _ _ q => q.elim)
      obtain ⟨x1, rfl, h⟩ := q
      obtain ⟨b0, ht, hf⟩ := h
      refine am_Wbr (P := [am_rg x1]) (c := x1 = 0) (t := 37) (f := 33) (st' := []) rfl rfl ⟨b0, trivial⟩ rfl (fun q => ?_) (fun q => ?_)
      · have h := ht q
        refine am_Wrun 1 (ps := []) (pc' := 39) (lv' := [(0, .inr (.inl (some 69))), (1, .inl (v1)), (2, .inr (.inr (.inl (v2)))), (4, .inl (v4)), (5, .inl (v5))]) (st' := [.inl (v4)]) (M' := M2) rfl trivial ?_
        refine am_W_sub [0, 1, 2, 4] rfl ?_
        exact tj_X6_area_39 (tw_X6_area_13 n) v1 v2 v5 v4 M2 h
      · have h := hf q
        refine am_Wrun 2 (ps := []) (pc' := 39) (lv' := [(0, .inr (.inl (some 69))), (1, .inl (v1)), (2, .inr (.inr (.inl (v2)))), (4, .inl (v4)), (5, .inl (v5))]) (st' := [.inl ((-1))]) (M' := M2) rfl trivial ?_
        refine am_W_sub [0, 1, 2, 4] rfl ?_
        exact tj_X6_area_39 (tw_X6_area_13 n) v1 v2 v5 (-1) M2 h
set_option maxRecDepth 20000 in
theorem tm_X6_area {a0 : Int} {M : am_M} {Q : Int → am_M → Prop} (h : wp_X6_area a0 M Q) : am_CC 3 185 [.inr (.inl (some 69)), .inl (a0)] M (am_QL Q) (fun _ _ => False) := by
  refine ⟨Nat.le_of_ble_eq_true rfl, ?_⟩
  show am_W (am_CC 2) dt_X6_area 2 0 none (am_QL Q) (am_qx 185 (fun _ _ => False)) (0, 0, [(0, .inr (.inl (some 69))), (1, .inl (a0))], [], M)
  refine am_Wrun 9 (ps := []) (pc' := 13) (lv' := [(5, .inl (0)), (4, .inl ((-1))), (2, .inr (.inr (.inl (0)))), (0, .inr (.inl (some 69))), (1, .inl (a0))]) (st' := []) (M' := (am_up M 69 5 0)) rfl trivial ?_
  refine am_W_sub [3, 4, 2, 1, 0] rfl ?_
  obtain ⟨n13, h⟩ := h
  exact tw_X6_area_13 n13 a0 0 (-1) 0 (am_up M 69 5 0) h
abbrev dt_X5_whyNot : am_D := (tk_X5_whyNot, 5, 2, some .int, tb_hn 106)
def wp_X5_whyNot (a0 : Int) (M : am_M) (Q : Int → am_M → Prop) (X : am_X) : Prop := wp_X5_refuseNoPoint a0 M (fun M1 => wp_X1_reasonToKeep a0 M1 (fun x2 M3 => Q x2 M3)) X
set_option maxRecDepth 20000 in
theorem tm_X5_whyNot {a0 : Int} {M : am_M} {Q : Int → am_M → Prop} {X : am_X} (h : wp_X5_whyNot a0 M Q X) : am_CC 7 106 [.inr (.inl (some 0)), .inl (a0)] M (am_QI Q) X := by
  refine ⟨Nat.le_of_ble_eq_true rfl, ?_⟩
  show am_W (am_CC 6) dt_X5_whyNot 6 0 none (am_QI Q) (am_qx 106 X) (0, 0, [(0, .inr (.inl (some 0))), (1, .inl (a0))], [], M)
  have hX : ∀ E M, X E M → am_qx 106 X E M := fun E M q => ⟨⟨rfl, by decide⟩, q⟩
  refine am_Wrun 2 (ps := []) (pc' := 2) (lv' := [(0, .inr (.inl (some 0))), (1, .inl (a0))]) (st' := [.inl (a0), .inr (.inl (some 0))]) (M' := M) rfl trivial ?_
  refine am_WcallV (y := 44) (n := 2) (a := 0) (f := 5) (as := [.inl (a0)]) (st' := []) rfl rfl rfl rfl rfl rfl rfl rfl rfl rfl (Nat.zero_le _) rfl (am_CC_le (Nat.le_of_ble_eq_true rfl) (tm_X5_refuseNoPoint h)) (fun r M1 q => ?_) (fun E M q => hX _ _ q)
  obtain ⟨rfl, h⟩ := q
  refine am_Wrun 3 (ps := []) (pc' := 10) (lv' := [(0, .inr (.inl (some 0))), (1, .inl (a0))]) (st' := [.inl (a0), .inr (.inl (some 9))]) (M' := M1) rfl trivial ?_
  refine am_WcallV (y := 45) (n := 2) (a := 9) (f := 13) (as := [.inl (a0)]) (st' := []) rfl rfl rfl rfl rfl rfl rfl rfl rfl rfl (Nat.zero_le _) rfl (am_CC_le (Nat.le_of_ble_eq_true rfl) (tm_X1_reasonToKeep h)) (fun r M3 q => ?_) (fun _ _ q => q.elim)
  obtain ⟨x2, rfl, h⟩ := q
  exact am_Wreti rfl rfl h
abbrev dt_L_whyNot : am_D := (tk_L_whyNot, 9, 4, some .int, tb_hn 217)
def wp_L_whyNot (a1 : Int) (M : am_M) (Q : Int → am_M → Prop) : Prop := wp_X5_whyNot a1 M (fun x1 M2 => (am_rg x1) ∧ (Q 0 (am_up M2 80 0 x1))) (fun E M3 => (E = 2 ∧ Q 1 M3))
set_option maxRecDepth 20000 in
theorem tm_L_whyNot {a1 : Int} {M : am_M} {Q : Int → am_M → Prop} (h : wp_L_whyNot a1 M Q) : am_CC 8 217 [.inr (.inl (some 0)), .inl (a1), .inr (.inl (some 80))] M (am_QI Q) (fun _ _ => False) := by
  refine ⟨Nat.le_of_ble_eq_true rfl, ?_⟩
  show am_W (am_CC 7) dt_L_whyNot 7 1 none (am_QI Q) (am_qx 217 (fun _ _ => False)) (0, 0, [(0, .inr (.inl (some 0))), (1, .inl (a1)), (2, .inr (.inl (some 80)))], [], M)
  refine am_Wrun 4 (ps := []) (pc' := 4) (lv' := [(0, .inr (.inl (some 0))), (1, .inl (a1)), (2, .inr (.inl (some 80)))]) (st' := [.inl (a1), .inr (.inl (some 0)), .inl (0), .inr (.inl (some 80))]) (M' := M) rfl trivial ?_
  refine am_WcallV (y := 106) (n := 2) (a := 0) (f := 7) (as := [.inl (a1)]) (st' := [.inl (0), .inr (.inl (some 80))]) rfl rfl rfl rfl rfl rfl rfl rfl rfl rfl (Nat.zero_le _) rfl (am_CC_le (Nat.le_of_ble_eq_true rfl) (tm_X5_whyNot h)) (fun r M2 q => ?_) (fun E M3 q => ?_)
  · obtain ⟨x1, rfl, h⟩ := q
    obtain ⟨c0_0, h⟩ := h
    refine am_Wrun 4 (ps := [am_rg x1, 0 ≤ (0 : Int) ∧ (0 : Int) < 1]) (pc' := 16) (lv' := [(0, .inr (.inl (some 0))), (1, .inl (a1)), (2, .inr (.inl (some 80)))]) (st' := [.inl (0)]) (M' := (am_up M2 80 0 x1)) rfl ⟨c0_0, ⟨by decide, by decide⟩, trivial⟩ ?_
    exact am_Wreti rfl rfl h
  · rcases q with ⟨rfl, h⟩
    · show 0 + 1 ≤ 1 ∧ am_W (am_CC 7) dt_L_whyNot 7 1 none (am_QI Q) _ (0 + 1, 13, [(0, .inr (.inl (some 0))), (1, .inl (a1)), (2, .inr (.inl (some 80)))], [], M3)
      refine ⟨Nat.le_refl _, ?_⟩
      refine am_Wrun 1 (ps := []) (pc' := 14) (lv' := [(0, .inr (.inl (some 0))), (1, .inl (a1)), (2, .inr (.inl (some 80)))]) (st' := [.inl (1)]) (M' := M3) rfl trivial ?_
      exact am_Wreti rfl rfl h
abbrev dt_X6_whyNot : am_D := (tk_X6_whyNot, 6, 2, some .int, tb_hn 186)
def wp_X6_whyNot (a0 : Int) (M : am_M) (Q : Int → am_M → Prop) : Prop := wp_X6_isPoint a0 (am_up M 69 5 0) (fun x1 M2 => (am_rg x1) ∧ (x1 = 0 → wp_X6_fails 1 M2 (fun x3 M4 => Q x3 M4)) ∧ (¬ x1 = 0 → wp_X6_against a0 M2 (fun x5 M6 => Q x5 M6)))
set_option maxRecDepth 20000 in
theorem tm_X6_whyNot {a0 : Int} {M : am_M} {Q : Int → am_M → Prop} (h : wp_X6_whyNot a0 M Q) : am_CC 7 186 [.inr (.inl (some 69)), .inl (a0)] M (am_QI Q) (fun _ _ => False) := by
  refine ⟨Nat.le_of_ble_eq_true rfl, ?_⟩
  show am_W (am_CC 6) dt_X6_whyNot 6 0 none (am_QI Q) (am_qx 186 (fun _ _ => False)) (0, 0, [(0, .inr (.inl (some 69))), (1, .inl (a0))], [], M)
  refine am_Wrun 5 (ps := []) (pc' := 7) (lv' := [(0, .inr (.inl (some 69))), (1, .inl (a0))]) (st' := [.inl (a0), .inr (.inl (some 69))]) (M' := (am_up M 69 5 0)) rfl trivial ?_
  refine am_WcallV (y := 119) (n := 2) (a := 69) (f := 10) (as := [.inl (a0)]) (st' := []) rfl rfl rfl rfl rfl rfl rfl rfl rfl rfl (Nat.zero_le _) rfl (am_CC_le (Nat.le_of_ble_eq_true rfl) (tm_X6_isPoint h)) (fun r M2 q => ?_) (fun _ _ q => q.elim)
  obtain ⟨x1, rfl, h⟩ := q
  obtain ⟨b0, ht, hf⟩ := h
  refine am_Wbr (P := [am_rg x1]) (c := x1 = 0) (t := 21) (f := 13) (st' := []) rfl rfl ⟨b0, trivial⟩ rfl (fun q => ?_) (fun q => ?_)
  · have h := ht q
    refine am_Wrun 2 (ps := []) (pc' := 23) (lv' := [(0, .inr (.inl (some 69))), (1, .inl (a0))]) (st' := [.inl (1), .inr (.inl (some 69))]) (M' := M2) rfl trivial ?_
    refine am_WcallV (y := 113) (n := 2) (a := 69) (f := 26) (as := [.inl (1)]) (st' := []) rfl rfl rfl rfl rfl rfl rfl rfl rfl rfl (Nat.zero_le _) rfl (am_CC_le (Nat.le_of_ble_eq_true rfl) (tm_X6_fails h)) (fun r M4 q => ?_) (fun _ _ q => q.elim)
    obtain ⟨x3, rfl, h⟩ := q
    exact am_Wreti rfl rfl h
  · have h := hf q
    refine am_Wrun 2 (ps := []) (pc' := 15) (lv' := [(0, .inr (.inl (some 69))), (1, .inl (a0))]) (st' := [.inl (a0), .inr (.inl (some 69))]) (M' := M2) rfl trivial ?_
    refine am_WcallV (y := 122) (n := 2) (a := 69) (f := 18) (as := [.inl (a0)]) (st' := []) rfl rfl rfl rfl rfl rfl rfl rfl rfl rfl (Nat.zero_le _) rfl (am_CC_le (Nat.le_of_ble_eq_true rfl) (tm_X6_against h)) (fun r M6 q => ?_) (fun _ _ q => q.elim)
    obtain ⟨x5, rfl, h⟩ := q
    refine am_Wrun 1 (ps := []) (pc' := 26) (lv' := [(0, .inr (.inl (some 69))), (1, .inl (a0))]) (st' := [.inl (x5)]) (M' := M6) rfl trivial ?_
    exact am_Wreti rfl rfl h
abbrev dt_X1_isWithin : am_D := (tk_X1_isWithin, 1, 4, some .boolean, tb_hn 108)
def wp_X1_isWithin (a0 : Int) (a1 : Int) (a2 : Int) (M : am_M) (Q : Int → am_M → Prop) : Prop := wp_X1_findMiss a0 a1 a2 M (fun x1 M2 => (am_rg x1) ∧ (x1 = 0 → Q 0 M2) ∧ (¬ x1 = 0 → (am_rg (M2 9 1)) ∧ (am_rg ((M2 6 0) * (M2 9 2))) ∧ (((M2 6 0) * (M2 9 2)) < (M2 9 1) → Q 0 M2) ∧ (¬ ((M2 6 0) * (M2 9 2)) < (M2 9 1) → Q 1 M2)))
set_option maxRecDepth 20000 in
theorem tm_X1_isWithin {a0 a1 a2 : Int} {M : am_M} {Q : Int → am_M → Prop} (h : wp_X1_isWithin a0 a1 a2 M Q) : am_CC 3 108 [.inr (.inl (some 9)), .inl (a0), .inl (a1), .inl (a2)] M (am_QI Q) (fun _ _ => False) := by
  refine ⟨Nat.le_of_ble_eq_true rfl, ?_⟩
  show am_W (am_CC 2) dt_X1_isWithin 2 0 none (am_QI Q) (am_qx 108 (fun _ _ => False)) (0, 0, [(0, .inr (.inl (some 9))), (1, .inl (a0)), (2, .inl (a1)), (3, .inl (a2))], [], M)
  refine am_Wrun 4 (ps := []) (pc' := 4) (lv' := [(0, .inr (.inl (some 9))), (1, .inl (a0)), (2, .inl (a1)), (3, .inl (a2))]) (st' := [.inl (a2), .inl (a1), .inl (a0), .inr (.inl (some 9))]) (M' := M) rfl trivial ?_
  refine am_WcallV (y := 15) (n := 4) (a := 9) (f := 7) (as := [.inl (a0), .inl (a1), .inl (a2)]) (st' := []) rfl rfl rfl rfl rfl rfl rfl rfl rfl rfl (Nat.zero_le _) rfl (am_CC_le (Nat.le_of_ble_eq_true rfl) (tm_X1_findMiss h)) (fun r M2 q => ?_) (fun _ _ q => q.elim)
  obtain ⟨x1, rfl, h⟩ := q
  obtain ⟨b0, ht, hf⟩ := h
  refine am_Wbr (P := [am_rg x1]) (c := x1 = 0) (t := 35) (f := 10) (st' := []) rfl rfl ⟨b0, trivial⟩ rfl (fun q => ?_) (fun q => ?_)
  · have h := ht q
    refine am_Wrun 1 (ps := []) (pc' := 36) (lv' := [(0, .inr (.inl (some 9))), (1, .inl (a0)), (2, .inl (a1)), (3, .inl (a2))]) (st' := [.inl (0)]) (M' := M2) rfl trivial ?_
    exact am_Wretz rfl rfl (Or.inl rfl) h
  · have h := hf q
    refine am_Wrun 10 (ps := [0 ≤ (0 : Int) ∧ (0 : Int) < 3]) (pc' := 28) (lv' := [(0, .inr (.inl (some 9))), (1, .inl (a0)), (2, .inl (a1)), (3, .inl (a2))]) (st' := [.inl ((M2 6 0) * (M2 9 2)), .inl (M2 9 1)]) (M' := M2) rfl ⟨⟨by decide, by decide⟩, trivial⟩ ?_
    obtain ⟨b0, b1, ht, hf⟩ := h
    refine am_Wbr (P := [am_rg (M2 9 1), am_rg ((M2 6 0) * (M2 9 2))]) (c := ((M2 6 0) * (M2 9 2)) < (M2 9 1)) (t := 35) (f := 31) (st' := []) rfl rfl ⟨b0, b1, trivial⟩ rfl (fun q => ?_) (fun q => ?_)
    · have h := ht q
      refine am_Wrun 1 (ps := []) (pc' := 36) (lv' := [(0, .inr (.inl (some 9))), (1, .inl (a0)), (2, .inl (a1)), (3, .inl (a2))]) (st' := [.inl (0)]) (M' := M2) rfl trivial ?_
      exact am_Wretz rfl rfl (Or.inl rfl) h
    · have h := hf q
      refine am_Wrun 2 (ps := []) (pc' := 36) (lv' := [(0, .inr (.inl (some 9))), (1, .inl (a0)), (2, .inl (a1)), (3, .inl (a2))]) (st' := [.inl (1)]) (M' := M2) rfl trivial ?_
      exact am_Wretz rfl rfl (Or.inr rfl) h
abbrev dt_X5_join : am_D := (tk_X5_join, 5, 5, some .int, tb_hn 107)
def wl_X5_join_48 (Q : Int → am_M → Prop) (X : am_X) : Nat → Int → Int → Int → Int → am_M → Prop
  | 0, _, _, _, _, _ => False
  | n + 1, v1, v2, v3, v4, M => (am_rg v4) ∧ (am_rg v2) ∧ (v2 ≤ v4 → Q v3 M) ∧ (¬ v2 ≤ v4 → wp_X1_isWithin v1 v2 v4 M (fun x5 M6 => (am_rg x5) ∧ (x5 = 0 → wl_X5_join_48 Q X n v1 v2 v3 (v4 + 1) M6) ∧ (¬ x5 = 0 → wl_X5_join_48 Q X n v1 v2 (v3 + 1) (v4 + 1) M6)))
def wp_X5_join (a0 : Int) (a1 : Int) (M : am_M) (Q : Int → am_M → Prop) (X : am_X) : Prop := wp_X5_refuseNoPoint a0 M (fun M1 => wp_X5_refuseNoPoint a1 M1 (fun M2 => (am_rg a1) ∧ (am_rg a0) ∧ (a0 < a1 → wp_X2_sameStretch a0 a1 M2 (fun x3 M4 => (am_rg x3) ∧ (¬ x3 = 0 → ∃ e48, wl_X5_join_48 Q X e48 a0 a1 0 (a0 + 1) M4) ∧ (¬ (¬ x3 = 0) → Q (-1000000) M4))) ∧ (¬ a0 < a1 → X 0 M2)) X) X
set_option maxRecDepth 20000 in
theorem tw_X5_join_48 {Q : Int → am_M → Prop} {X : am_X} {QX : am_X} (hX : ∀ E M, X E M → QX E M) : ∀ (n : Nat) (v1 : Int) (v2 : Int) (v3 : Int) (v4 : Int) (M : am_M), wl_X5_join_48 Q X n v1 v2 v3 v4 M → am_W (am_CC 6) dt_X5_join 6 0 none (am_QI Q) QX (0, 48, [(0, .inr (.inl (some 0))), (1, .inl (v1)), (2, .inl (v2)), (3, .inl (v3)), (4, .inl (v4))], [], M)
  | 0, _, _, _, _, _, h => h.elim
  | n + 1, v1, v2, v3, v4, M, h => by
    refine am_Wrun 2 (ps := []) (pc' := 51) (lv' := [(0, .inr (.inl (some 0))), (1, .inl (v1)), (2, .inl (v2)), (3, .inl (v3)), (4, .inl (v4))]) (st' := [.inl (v2), .inl (v4)]) (M' := M) rfl trivial ?_
    obtain ⟨b0, b1, ht, hf⟩ := h
    refine am_Wbr (P := [am_rg v4, am_rg v2]) (c := v2 ≤ v4) (t := 77) (f := 54) (st' := []) rfl rfl ⟨b0, b1, trivial⟩ rfl (fun q => ?_) (fun q => ?_)
    · have h := ht q
      refine am_Wrun 1 (ps := []) (pc' := 78) (lv' := [(0, .inr (.inl (some 0))), (1, .inl (v1)), (2, .inl (v2)), (3, .inl (v3)), (4, .inl (v4))]) (st' := [.inl (v3)]) (M' := M) rfl trivial ?_
      exact am_Wreti rfl rfl h
    · have h := hf q
      refine am_Wrun 5 (ps := []) (pc' := 62) (lv' := [(0, .inr (.inl (some 0))), (1, .inl (v1)), (2, .inl (v2)), (3, .inl (v3)), (4, .inl (v4))]) (st' := [.inl (v4), .inl (v2), .inl (v1), .inr (.inl (some 9))]) (M' := M) rfl trivial ?_
      refine am_WcallV (y := 108) (n := 4) (a := 9) (f := 65) (as := [.inl (v1), .inl (v2), .inl (v4)]) (st' := []) rfl rfl rfl rfl rfl rfl rfl rfl rfl rfl (Nat.zero_le _) rfl (am_CC_le (Nat.le_of_ble_eq_true rfl) (tm_X1_isWithin h)) (fun r M6 q => ?_) (fun _ _ q => q.elim)
      obtain ⟨x5, rfl, h⟩ := q
      obtain ⟨b0, ht, hf⟩ := h
      refine am_Wbr (P := [am_rg x5]) (c := x5 = 0) (t := 71) (f := 68) (st' := []) rfl rfl ⟨b0, trivial⟩ rfl (fun q => ?_) (fun q => ?_)
      · have h := ht q
        refine am_Wrun 2 (ps := []) (pc' := 48) (lv' := [(4, .inl (v4 + 1)), (0, .inr (.inl (some 0))), (1, .inl (v1)), (2, .inl (v2)), (3, .inl (v3))]) (st' := []) (M' := M6) rfl trivial ?_
        refine am_W_sub [1, 2, 3, 4, 0] rfl ?_
        exact tw_X5_join_48 hX n v1 v2 v3 (v4 + 1) M6 h
      · have h := hf q
        refine am_Wrun 3 (ps := []) (pc' := 48) (lv' := [(4, .inl (v4 + 1)), (3, .inl (v3 + 1)), (0, .inr (.inl (some 0))), (1, .inl (v1)), (2, .inl (v2))]) (st' := []) (M' := M6) rfl trivial ?_
        refine am_W_sub [2, 3, 4, 1, 0] rfl ?_
        exact tw_X5_join_48 hX n v1 v2 (v3 + 1) (v4 + 1) M6 h
set_option maxRecDepth 20000 in
theorem tm_X5_join {a0 a1 : Int} {M : am_M} {Q : Int → am_M → Prop} {X : am_X} (h : wp_X5_join a0 a1 M Q X) : am_CC 7 107 [.inr (.inl (some 0)), .inl (a0), .inl (a1)] M (am_QI Q) X := by
  refine ⟨Nat.le_of_ble_eq_true rfl, ?_⟩
  show am_W (am_CC 6) dt_X5_join 6 0 none (am_QI Q) (am_qx 107 X) (0, 0, [(0, .inr (.inl (some 0))), (1, .inl (a0)), (2, .inl (a1))], [], M)
  have hX : ∀ E M, X E M → am_qx 107 X E M := fun E M q => ⟨⟨rfl, by decide⟩, q⟩
  refine am_Wrun 2 (ps := []) (pc' := 2) (lv' := [(0, .inr (.inl (some 0))), (1, .inl (a0)), (2, .inl (a1))]) (st' := [.inl (a0), .inr (.inl (some 0))]) (M' := M) rfl trivial ?_
  refine am_WcallV (y := 44) (n := 2) (a := 0) (f := 5) (as := [.inl (a0)]) (st' := []) rfl rfl rfl rfl rfl rfl rfl rfl rfl rfl (Nat.zero_le _) rfl (am_CC_le (Nat.le_of_ble_eq_true rfl) (tm_X5_refuseNoPoint h)) (fun r M1 q => ?_) (fun E M q => hX _ _ q)
  obtain ⟨rfl, h⟩ := q
  refine am_Wrun 2 (ps := []) (pc' := 7) (lv' := [(0, .inr (.inl (some 0))), (1, .inl (a0)), (2, .inl (a1))]) (st' := [.inl (a1), .inr (.inl (some 0))]) (M' := M1) rfl trivial ?_
  refine am_WcallV (y := 44) (n := 2) (a := 0) (f := 10) (as := [.inl (a1)]) (st' := []) rfl rfl rfl rfl rfl rfl rfl rfl rfl rfl (Nat.zero_le _) rfl (am_CC_le (Nat.le_of_ble_eq_true rfl) (tm_X5_refuseNoPoint h)) (fun r M2 q => ?_) (fun E M q => hX _ _ q)
  obtain ⟨rfl, h⟩ := q
  refine am_Wrun 2 (ps := []) (pc' := 12) (lv' := [(0, .inr (.inl (some 0))), (1, .inl (a0)), (2, .inl (a1))]) (st' := [.inl (a0), .inl (a1)]) (M' := M2) rfl trivial ?_
  obtain ⟨b0, b1, ht, hf⟩ := h
  refine am_Wbr (P := [am_rg a1, am_rg a0]) (c := a0 < a1) (t := 26) (f := 15) (st' := []) rfl rfl ⟨b0, b1, trivial⟩ rfl (fun q => ?_) (fun q => ?_)
  · have h := ht q
    refine am_Wrun 4 (ps := []) (pc' := 32) (lv' := [(0, .inr (.inl (some 0))), (1, .inl (a0)), (2, .inl (a1))]) (st' := [.inl (a1), .inl (a0), .inr (.inl (some 1))]) (M' := M2) rfl trivial ?_
    refine am_WcallV (y := 12) (n := 3) (a := 1) (f := 35) (as := [.inl (a0), .inl (a1)]) (st' := []) rfl rfl rfl rfl rfl rfl rfl rfl rfl rfl (Nat.zero_le _) rfl (am_CC_le (Nat.le_of_ble_eq_true rfl) (tm_X2_sameStretch h)) (fun r M4 q => ?_) (fun _ _ q => q.elim)
    obtain ⟨x3, rfl, h⟩ := q
    obtain ⟨b0, ht, hf⟩ := h
    refine am_Wbr (P := [am_rg x3]) (c := ¬ x3 = 0) (t := 41) (f := 38) (st' := []) rfl rfl ⟨b0, trivial⟩ rfl (fun q => ?_) (fun q => ?_)
    · have h := ht q
      refine am_Wrun 6 (ps := []) (pc' := 48) (lv' := [(4, .inl (a0 + 1)), (3, .inl (0)), (0, .inr (.inl (some 0))), (1, .inl (a0)), (2, .inl (a1))]) (st' := []) (M' := M4) rfl trivial ?_
      refine am_W_sub [2, 3, 4, 1, 0] rfl ?_
      obtain ⟨n48, h⟩ := h
      exact tw_X5_join_48 hX n48 a0 a1 0 (a0 + 1) M4 h
    · have h := hf q
      refine am_Wrun 1 (ps := []) (pc' := 40) (lv' := [(0, .inr (.inl (some 0))), (1, .inl (a0)), (2, .inl (a1))]) (st' := [.inl ((-1000000))]) (M' := M4) rfl trivial ?_
      exact am_Wreti rfl rfl h
  · have h := hf q
    exact am_Wthr (is := 273) (ic := 63) (E := 0) rfl (Nat.le_of_ble_eq_true rfl) rfl rfl rfl rfl (Or.inr ⟨rfl, rfl, rfl⟩) (hX _ _ h)
abbrev dt_L_join : am_D := (tk_L_join, 9, 5, some .int, tb_hn 218)
def wp_L_join (a1 : Int) (a2 : Int) (M : am_M) (Q : Int → am_M → Prop) : Prop := wp_X5_join a1 a2 M (fun x1 M2 => (am_rg x1) ∧ (Q 0 (am_up M2 80 0 x1))) (fun E M3 => (E = 2 ∧ Q 1 M3) ∨ (E = 0 ∧ Q 2 M3))
set_option maxRecDepth 20000 in
theorem tm_L_join {a1 a2 : Int} {M : am_M} {Q : Int → am_M → Prop} (h : wp_L_join a1 a2 M Q) : am_CC 8 218 [.inr (.inl (some 0)), .inl (a1), .inl (a2), .inr (.inl (some 80))] M (am_QI Q) (fun _ _ => False) := by
  refine ⟨Nat.le_of_ble_eq_true rfl, ?_⟩
  show am_W (am_CC 7) dt_L_join 7 1 none (am_QI Q) (am_qx 218 (fun _ _ => False)) (0, 0, [(0, .inr (.inl (some 0))), (1, .inl (a1)), (2, .inl (a2)), (3, .inr (.inl (some 80)))], [], M)
  refine am_Wrun 5 (ps := []) (pc' := 5) (lv' := [(0, .inr (.inl (some 0))), (1, .inl (a1)), (2, .inl (a2)), (3, .inr (.inl (some 80)))]) (st' := [.inl (a2), .inl (a1), .inr (.inl (some 0)), .inl (0), .inr (.inl (some 80))]) (M' := M) rfl trivial ?_
  refine am_WcallV (y := 107) (n := 3) (a := 0) (f := 8) (as := [.inl (a1), .inl (a2)]) (st' := [.inl (0), .inr (.inl (some 80))]) rfl rfl rfl rfl rfl rfl rfl rfl rfl rfl (Nat.zero_le _) rfl (am_CC_le (Nat.le_of_ble_eq_true rfl) (tm_X5_join h)) (fun r M2 q => ?_) (fun E M3 q => ?_)
  · obtain ⟨x1, rfl, h⟩ := q
    obtain ⟨c0_0, h⟩ := h
    refine am_Wrun 4 (ps := [am_rg x1, 0 ≤ (0 : Int) ∧ (0 : Int) < 1]) (pc' := 22) (lv' := [(0, .inr (.inl (some 0))), (1, .inl (a1)), (2, .inl (a2)), (3, .inr (.inl (some 80)))]) (st' := [.inl (0)]) (M' := (am_up M2 80 0 x1)) rfl ⟨c0_0, ⟨by decide, by decide⟩, trivial⟩ ?_
    exact am_Wreti rfl rfl h
  · rcases q with ⟨rfl, h⟩ | ⟨rfl, h⟩
    · show 0 + 1 ≤ 1 ∧ am_W (am_CC 7) dt_L_join 7 1 none (am_QI Q) _ (0 + 1, 15, [(0, .inr (.inl (some 0))), (1, .inl (a1)), (2, .inl (a2)), (3, .inr (.inl (some 80)))], [], M3)
      refine ⟨Nat.le_refl _, ?_⟩
      refine am_Wrun 1 (ps := []) (pc' := 16) (lv' := [(0, .inr (.inl (some 0))), (1, .inl (a1)), (2, .inl (a2)), (3, .inr (.inl (some 80)))]) (st' := [.inl (1)]) (M' := M3) rfl trivial ?_
      exact am_Wreti rfl rfl h
    · show 0 + 1 ≤ 1 ∧ am_W (am_CC 7) dt_L_join 7 1 none (am_QI Q) _ (0 + 1, 19, [(0, .inr (.inl (some 0))), (1, .inl (a1)), (2, .inl (a2)), (3, .inr (.inl (some 80)))], [], M3)
      refine ⟨Nat.le_refl _, ?_⟩
      refine am_Wrun 1 (ps := []) (pc' := 20) (lv' := [(0, .inr (.inl (some 0))), (1, .inl (a1)), (2, .inl (a2)), (3, .inr (.inl (some 80)))]) (st' := [.inl (2)]) (M' := M3) rfl trivial ?_
      exact am_Wreti rfl rfl h
abbrev dt_X6_join : am_D := (tk_X6_join, 6, 3, some .int, tb_hn 187)
def wj_X6_join_21 (Q : Int → am_M → Prop) (M : am_M) : Prop := wp_X6_fails 1 M (fun x3 M4 => Q x3 M4)
def wp_X6_join (a0 : Int) (a1 : Int) (M : am_M) (Q : Int → am_M → Prop) : Prop := wp_X6_isPoint a0 (am_up M 69 5 0) (fun x1 M2 => (am_rg x1) ∧ (x1 = 0 → wj_X6_join_21 Q  M2) ∧ (¬ x1 = 0 → wp_X6_isPoint a1 M2 (fun x5 M6 => (am_rg x5) ∧ (¬ x5 = 0 → (am_rg a1) ∧ (am_rg a0) ∧ (a0 < a1 → wp_X6_stretchOf a0 M6 (fun x7 M8 => wp_X6_stretchOf a1 M8 (fun x9 M10 => (am_rg x7) ∧ (am_rg x9) ∧ (¬ x7 = x9 → Q (-1000000) M10) ∧ (¬ (¬ x7 = x9) → wp_X6_withinMany a0 a1 (M10 70 4) M10 (fun x11 M12 => Q x11 M12))))) ∧ (¬ a0 < a1 → wp_X6_fails 2 M6 (fun x13 M14 => Q x13 M14))) ∧ (¬ (¬ x5 = 0) → wj_X6_join_21 Q  M6))))
set_option maxRecDepth 20000 in
theorem tj_X6_join_21 {Q : Int → am_M → Prop} {QX : am_X} (M : am_M) (h : wj_X6_join_21 Q M) : am_W (am_CC 4) dt_X6_join 4 0 none (am_QI Q) QX (0, 21, [(0, .inr (.inl (some 69)))], [], M) := by
  refine am_Wrun 2 (ps := []) (pc' := 23) (lv' := [(0, .inr (.inl (some 69)))]) (st' := [.inl (1), .inr (.inl (some 69))]) (M' := M) rfl trivial ?_
  refine am_WcallV (y := 113) (n := 2) (a := 69) (f := 26) (as := [.inl (1)]) (st' := []) rfl rfl rfl rfl rfl rfl rfl rfl rfl rfl (Nat.zero_le _) rfl (am_CC_le (Nat.le_of_ble_eq_true rfl) (tm_X6_fails h)) (fun r M4 q => ?_) (fun _ _ q => q.elim)
  obtain ⟨x3, rfl, h⟩ := q
  exact am_Wreti rfl rfl h
set_option maxRecDepth 20000 in
theorem tm_X6_join {a0 a1 : Int} {M : am_M} {Q : Int → am_M → Prop} (h : wp_X6_join a0 a1 M Q) : am_CC 5 187 [.inr (.inl (some 69)), .inl (a0), .inl (a1)] M (am_QI Q) (fun _ _ => False) := by
  refine ⟨Nat.le_of_ble_eq_true rfl, ?_⟩
  show am_W (am_CC 4) dt_X6_join 4 0 none (am_QI Q) (am_qx 187 (fun _ _ => False)) (0, 0, [(0, .inr (.inl (some 69))), (1, .inl (a0)), (2, .inl (a1))], [], M)
  refine am_Wrun 5 (ps := []) (pc' := 7) (lv' := [(0, .inr (.inl (some 69))), (1, .inl (a0)), (2, .inl (a1))]) (st' := [.inl (a0), .inr (.inl (some 69))]) (M' := (am_up M 69 5 0)) rfl trivial ?_
  refine am_WcallV (y := 119) (n := 2) (a := 69) (f := 10) (as := [.inl (a0)]) (st' := []) rfl rfl rfl rfl rfl rfl rfl rfl rfl rfl (Nat.zero_le _) rfl (am_CC_le (Nat.le_of_ble_eq_true rfl) (tm_X6_isPoint h)) (fun r M2 q => ?_) (fun _ _ q => q.elim)
  obtain ⟨x1, rfl, h⟩ := q
  obtain ⟨b0, ht, hf⟩ := h
  refine am_Wbr (P := [am_rg x1]) (c := x1 = 0) (t := 21) (f := 13) (st' := []) rfl rfl ⟨b0, trivial⟩ rfl (fun q => ?_) (fun q => ?_)
  · have h := ht q
    refine am_W_sub [0] rfl ?_
    exact tj_X6_join_21  M2 h
  · have h := hf q
    refine am_Wrun 2 (ps := []) (pc' := 15) (lv' := [(0, .inr (.inl (some 69))), (1, .inl (a0)), (2, .inl (a1))]) (st' := [.inl (a1), .inr (.inl (some 69))]) (M' := M2) rfl trivial ?_
    refine am_WcallV (y := 119) (n := 2) (a := 69) (f := 18) (as := [.inl (a1)]) (st' := []) rfl rfl rfl rfl rfl rfl rfl rfl rfl rfl (Nat.zero_le _) rfl (am_CC_le (Nat.le_of_ble_eq_true rfl) (tm_X6_isPoint h)) (fun r M6 q => ?_) (fun _ _ q => q.elim)
    obtain ⟨x5, rfl, h⟩ := q
    obtain ⟨b0, ht, hf⟩ := h
    refine am_Wbr (P := [am_rg x5]) (c := ¬ x5 = 0) (t := 27) (f := 21) (st' := []) rfl rfl ⟨b0, trivial⟩ rfl (fun q => ?_) (fun q => ?_)
    · have h := ht q
      refine am_Wrun 2 (ps := []) (pc' := 29) (lv' := [(0, .inr (.inl (some 69))), (1, .inl (a0)), (2, .inl (a1))]) (st' := [.inl (a0), .inl (a1)]) (M' := M6) rfl trivial ?_
      obtain ⟨b0, b1, ht, hf⟩ := h
      refine am_Wbr (P := [am_rg a1, am_rg a0]) (c := a0 < a1) (t := 38) (f := 32) (st' := []) rfl rfl ⟨b0, b1, trivial⟩ rfl (fun q => ?_) (fun q => ?_)
      · have h := ht q
        refine am_Wrun 2 (ps := []) (pc' := 40) (lv' := [(0, .inr (.inl (some 69))), (1, .inl (a0)), (2, .inl (a1))]) (st' := [.inl (a0), .inr (.inl (some 69))]) (M' := M6) rfl trivial ?_
        refine am_WcallV (y := 126) (n := 2) (a := 69) (f := 43) (as := [.inl (a0)]) (st' := []) rfl rfl rfl rfl rfl rfl rfl rfl rfl rfl (Nat.zero_le _) rfl (am_CC_le (Nat.le_of_ble_eq_true rfl) (tm_X6_stretchOf h)) (fun r M8 q => ?_) (fun _ _ q => q.elim)
        obtain ⟨x7, rfl, h⟩ := q
        refine am_Wrun 2 (ps := []) (pc' := 45) (lv' := [(0, .inr (.inl (some 69))), (1, .inl (a0)), (2, .inl (a1))]) (st' := [.inl (a1), .inr (.inl (some 69)), .inl (x7)]) (M' := M8) rfl trivial ?_
        refine am_WcallV (y := 126) (n := 2) (a := 69) (f := 48) (as := [.inl (a1)]) (st' := [.inl (x7)]) rfl rfl rfl rfl rfl rfl rfl rfl rfl rfl (Nat.zero_le _) rfl (am_CC_le (Nat.le_of_ble_eq_true rfl) (tm_X6_stretchOf h)) (fun r M10 q => ?_) (fun _ _ q => q.elim)
        obtain ⟨x9, rfl, h⟩ := q
        obtain ⟨b0, b1, ht, hf⟩ := h
        refine am_Wbr (P := [am_rg x7, am_rg x9]) (c := ¬ x7 = x9) (t := 66) (f := 51) (st' := []) rfl rfl ⟨b0, b1, trivial⟩ rfl (fun q => ?_) (fun q => ?_)
        · have h := ht q
          refine am_Wrun 1 (ps := []) (pc' := 68) (lv' := [(0, .inr (.inl (some 69))), (1, .inl (a0)), (2, .inl (a1))]) (st' := [.inl ((-1000000))]) (M' := M10) rfl trivial ?_
          exact am_Wreti rfl rfl h
        · have h := hf q
          refine am_Wrun 7 (ps := [0 ≤ (4 : Int) ∧ (4 : Int) < 203]) (pc' := 60) (lv' := [(0, .inr (.inl (some 69))), (1, .inl (a0)), (2, .inl (a1))]) (st' := [.inl (M10 70 4), .inl (a1), .inl (a0), .inr (.inl (some 69))]) (M' := M10) rfl ⟨⟨by decide, by decide⟩, trivial⟩ ?_
          refine am_WcallV (y := 129) (n := 4) (a := 69) (f := 63) (as := [.inl (a0), .inl (a1), .inl (M10 70 4)]) (st' := []) rfl rfl rfl rfl rfl rfl rfl rfl rfl rfl (Nat.zero_le _) rfl (am_CC_le (Nat.le_of_ble_eq_true rfl) (tm_X6_withinMany h)) (fun r M12 q => ?_) (fun _ _ q => q.elim)
          obtain ⟨x11, rfl, h⟩ := q
          refine am_Wrun 1 (ps := []) (pc' := 68) (lv' := [(0, .inr (.inl (some 69))), (1, .inl (a0)), (2, .inl (a1))]) (st' := [.inl (x11)]) (M' := M12) rfl trivial ?_
          exact am_Wreti rfl rfl h
      · have h := hf q
        refine am_Wrun 2 (ps := []) (pc' := 34) (lv' := [(0, .inr (.inl (some 69))), (1, .inl (a0)), (2, .inl (a1))]) (st' := [.inl (2), .inr (.inl (some 69))]) (M' := M6) rfl trivial ?_
        refine am_WcallV (y := 113) (n := 2) (a := 69) (f := 37) (as := [.inl (2)]) (st' := []) rfl rfl rfl rfl rfl rfl rfl rfl rfl rfl (Nat.zero_le _) rfl (am_CC_le (Nat.le_of_ble_eq_true rfl) (tm_X6_fails h)) (fun r M14 q => ?_) (fun _ _ q => q.elim)
        obtain ⟨x13, rfl, h⟩ := q
        exact am_Wreti rfl rfl h
    · have h := hf q
      refine am_W_sub [0] rfl ?_
      exact tj_X6_join_21  M6 h
abbrev dt_X5_ifThinned : am_D := (tk_X5_ifThinned, 5, 2, some .int, tb_hn 63)
def wp_X5_ifThinned (a0 : Int) (M : am_M) (Q : Int → am_M → Prop) (X : am_X) : Prop := wp_X5_refuseNoWay a0 M (fun M1 => wp_X4_choose a0 M1 (fun x2 M3 => Q x2 M3)) X
set_option maxRecDepth 20000 in
theorem tm_X5_ifThinned {a0 : Int} {M : am_M} {Q : Int → am_M → Prop} {X : am_X} (h : wp_X5_ifThinned a0 M Q X) : am_CC 8 63 [.inr (.inl (some 0)), .inl (a0)] M (am_QI Q) X := by
  refine ⟨Nat.le_of_ble_eq_true rfl, ?_⟩
  show am_W (am_CC 7) dt_X5_ifThinned 7 0 none (am_QI Q) (am_qx 63 X) (0, 0, [(0, .inr (.inl (some 0))), (1, .inl (a0))], [], M)
  have hX : ∀ E M, X E M → am_qx 63 X E M := fun E M q => ⟨⟨rfl, by decide⟩, q⟩
  refine am_Wrun 1 (ps := []) (pc' := 1) (lv' := [(0, .inr (.inl (some 0))), (1, .inl (a0))]) (st' := [.inl (a0)]) (M' := M) rfl trivial ?_
  refine am_WcallS (y := 64) (n := 1) (f := 4) (co := 0) (as := [.inl (a0)]) (st' := []) rfl rfl rfl rfl rfl rfl rfl rfl rfl (Nat.zero_le _) rfl (am_CC_le (Nat.le_of_ble_eq_true rfl) (tm_X5_refuseNoWay h)) (fun r M1 q => ?_) (fun E M q => hX _ _ q)
  obtain ⟨rfl, h⟩ := q
  refine am_Wrun 3 (ps := []) (pc' := 9) (lv' := [(0, .inr (.inl (some 0))), (1, .inl (a0))]) (st' := [.inl (a0), .inr (.inl (some 10))]) (M' := M1) rfl trivial ?_
  refine am_WcallV (y := 65) (n := 2) (a := 10) (f := 12) (as := [.inl (a0)]) (st' := []) rfl rfl rfl rfl rfl rfl rfl rfl rfl rfl (Nat.zero_le _) rfl (am_CC_le (Nat.le_of_ble_eq_true rfl) (tm_X4_choose h)) (fun r M3 q => ?_) (fun _ _ q => q.elim)
  obtain ⟨x2, rfl, h⟩ := q
  exact am_Wreti rfl rfl h
abbrev dt_L_ifThinned : am_D := (tk_L_ifThinned, 9, 4, some .int, tb_hn 219)
def wp_L_ifThinned (a1 : Int) (M : am_M) (Q : Int → am_M → Prop) : Prop := wp_X5_ifThinned a1 M (fun x1 M2 => (am_rg x1) ∧ (Q 0 (am_up M2 80 0 x1))) (fun E M3 => (E = 0 ∧ Q 1 M3))
set_option maxRecDepth 20000 in
theorem tm_L_ifThinned {a1 : Int} {M : am_M} {Q : Int → am_M → Prop} (h : wp_L_ifThinned a1 M Q) : am_CC 9 219 [.inr (.inl (some 0)), .inl (a1), .inr (.inl (some 80))] M (am_QI Q) (fun _ _ => False) := by
  refine ⟨Nat.le_of_ble_eq_true rfl, ?_⟩
  show am_W (am_CC 8) dt_L_ifThinned 8 1 none (am_QI Q) (am_qx 219 (fun _ _ => False)) (0, 0, [(0, .inr (.inl (some 0))), (1, .inl (a1)), (2, .inr (.inl (some 80)))], [], M)
  refine am_Wrun 4 (ps := []) (pc' := 4) (lv' := [(0, .inr (.inl (some 0))), (1, .inl (a1)), (2, .inr (.inl (some 80)))]) (st' := [.inl (a1), .inr (.inl (some 0)), .inl (0), .inr (.inl (some 80))]) (M' := M) rfl trivial ?_
  refine am_WcallV (y := 63) (n := 2) (a := 0) (f := 7) (as := [.inl (a1)]) (st' := [.inl (0), .inr (.inl (some 80))]) rfl rfl rfl rfl rfl rfl rfl rfl rfl rfl (Nat.zero_le _) rfl (am_CC_le (Nat.le_of_ble_eq_true rfl) (tm_X5_ifThinned h)) (fun r M2 q => ?_) (fun E M3 q => ?_)
  · obtain ⟨x1, rfl, h⟩ := q
    obtain ⟨c0_0, h⟩ := h
    refine am_Wrun 4 (ps := [am_rg x1, 0 ≤ (0 : Int) ∧ (0 : Int) < 1]) (pc' := 16) (lv' := [(0, .inr (.inl (some 0))), (1, .inl (a1)), (2, .inr (.inl (some 80)))]) (st' := [.inl (0)]) (M' := (am_up M2 80 0 x1)) rfl ⟨c0_0, ⟨by decide, by decide⟩, trivial⟩ ?_
    exact am_Wreti rfl rfl h
  · rcases q with ⟨rfl, h⟩
    · show 0 + 1 ≤ 1 ∧ am_W (am_CC 8) dt_L_ifThinned 8 1 none (am_QI Q) _ (0 + 1, 13, [(0, .inr (.inl (some 0))), (1, .inl (a1)), (2, .inr (.inl (some 80)))], [], M3)
      refine ⟨Nat.le_refl _, ?_⟩
      refine am_Wrun 1 (ps := []) (pc' := 14) (lv' := [(0, .inr (.inl (some 0))), (1, .inl (a1)), (2, .inr (.inl (some 80)))]) (st' := [.inl (1)]) (M' := M3) rfl trivial ?_
      exact am_Wreti rfl rfl h
abbrev dt_X6_ifThinned : am_D := (tk_X6_ifThinned, 6, 2, some .int, tb_hn 188)
def wp_X6_ifThinned (a0 : Int) (M : am_M) (Q : Int → am_M → Prop) : Prop := wp_X6_in a0 0 2 (am_up M 69 5 0) (fun x1 M2 => (am_rg x1) ∧ (x1 = 0 → wp_X6_fails 1 M2 (fun x3 M4 => Q x3 M4)) ∧ (¬ x1 = 0 → wp_X6_choose a0 M2 (fun x5 M6 => Q x5 M6)))
set_option maxRecDepth 20000 in
theorem tm_X6_ifThinned {a0 : Int} {M : am_M} {Q : Int → am_M → Prop} (h : wp_X6_ifThinned a0 M Q) : am_CC 8 188 [.inr (.inl (some 69)), .inl (a0)] M (am_QI Q) (fun _ _ => False) := by
  refine ⟨Nat.le_of_ble_eq_true rfl, ?_⟩
  show am_W (am_CC 7) dt_X6_ifThinned 7 0 none (am_QI Q) (am_qx 188 (fun _ _ => False)) (0, 0, [(0, .inr (.inl (some 69))), (1, .inl (a0))], [], M)
  refine am_Wrun 6 (ps := []) (pc' := 8) (lv' := [(0, .inr (.inl (some 69))), (1, .inl (a0))]) (st' := [.inl (2), .inl (0), .inl (a0)]) (M' := (am_up M 69 5 0)) rfl trivial ?_
  refine am_WcallS (y := 112) (n := 3) (f := 11) (co := 0) (as := [.inl (a0), .inl (0), .inl (2)]) (st' := []) rfl rfl rfl rfl rfl rfl rfl rfl rfl (Nat.zero_le _) rfl (am_CC_le (Nat.le_of_ble_eq_true rfl) (tm_X6_in h)) (fun r M2 q => ?_) (fun _ _ q => q.elim)
  obtain ⟨x1, rfl, h⟩ := q
  obtain ⟨b0, ht, hf⟩ := h
  refine am_Wbr (P := [am_rg x1]) (c := x1 = 0) (t := 22) (f := 14) (st' := []) rfl rfl ⟨b0, trivial⟩ rfl (fun q => ?_) (fun q => ?_)
  · have h := ht q
    refine am_Wrun 2 (ps := []) (pc' := 24) (lv' := [(0, .inr (.inl (some 69))), (1, .inl (a0))]) (st' := [.inl (1), .inr (.inl (some 69))]) (M' := M2) rfl trivial ?_
    refine am_WcallV (y := 113) (n := 2) (a := 69) (f := 27) (as := [.inl (1)]) (st' := []) rfl rfl rfl rfl rfl rfl rfl rfl rfl rfl (Nat.zero_le _) rfl (am_CC_le (Nat.le_of_ble_eq_true rfl) (tm_X6_fails h)) (fun r M4 q => ?_) (fun _ _ q => q.elim)
    obtain ⟨x3, rfl, h⟩ := q
    exact am_Wreti rfl rfl h
  · have h := hf q
    refine am_Wrun 2 (ps := []) (pc' := 16) (lv' := [(0, .inr (.inl (some 69))), (1, .inl (a0))]) (st' := [.inl (a0), .inr (.inl (some 69))]) (M' := M2) rfl trivial ?_
    refine am_WcallV (y := 144) (n := 2) (a := 69) (f := 19) (as := [.inl (a0)]) (st' := []) rfl rfl rfl rfl rfl rfl rfl rfl rfl rfl (Nat.zero_le _) rfl (am_CC_le (Nat.le_of_ble_eq_true rfl) (tm_X6_choose h)) (fun r M6 q => ?_) (fun _ _ q => q.elim)
    obtain ⟨x5, rfl, h⟩ := q
    refine am_Wrun 1 (ps := []) (pc' := 27) (lv' := [(0, .inr (.inl (some 69))), (1, .inl (a0))]) (st' := [.inl (x5)]) (M' := M6) rfl trivial ?_
    exact am_Wreti rfl rfl h
abbrev dt_X4_leastOathFor : am_D := (tk_X4_leastOathFor, 4, 4, some .int, tb_hn 71)
def wl_X4_leastOathFor_10 (Q : Int → am_M → Prop) : Nat → Int → Int → Int → am_M → Prop
  | 0, _, _, _, _ => False
  | n + 1, v1, v2, v3, M => (am_rg v3) ∧ (v3 ≤ 0 → Q v2 M) ∧ (¬ v3 ≤ 0 → wp_X4_findFewest ((v2 + v3) - 1) M (fun x2 M3 => (am_rg x2) ∧ (am_rg v1) ∧ (x2 ≤ v1 → (am_rg v3 ∧ am_rg 2 ∧ (0 : Int) < 2) ∧ (wl_X4_leastOathFor_10 Q n v1 v2 (Int.tdiv v3 2) M3)) ∧ (¬ x2 ≤ v1 → (am_rg v3 ∧ am_rg 2 ∧ (0 : Int) < 2) ∧ (wl_X4_leastOathFor_10 Q n v1 (v2 + v3) (Int.tdiv v3 2) M3))))
def wp_X4_leastOathFor (a0 : Int) (M : am_M) (Q : Int → am_M → Prop) : Prop := wp_X4_findNeeds M (fun M1 => ∃ e10, wl_X4_leastOathFor_10 Q e10 a0 0 256 M1)
set_option maxRecDepth 20000 in
theorem tw_X4_leastOathFor_10 {Q : Int → am_M → Prop} {QX : am_X} : ∀ (n : Nat) (v1 : Int) (v2 : Int) (v3 : Int) (M : am_M), wl_X4_leastOathFor_10 Q n v1 v2 v3 M → am_W (am_CC 3) dt_X4_leastOathFor 3 0 none (am_QI Q) QX (0, 10, [(0, .inr (.inl (some 10))), (1, .inl (v1)), (2, .inl (v2)), (3, .inl (v3))], [], M)
  | 0, _, _, _, _, h => h.elim
  | n + 1, v1, v2, v3, M, h => by
    refine am_Wrun 1 (ps := []) (pc' := 11) (lv' := [(0, .inr (.inl (some 10))), (1, .inl (v1)), (2, .inl (v2)), (3, .inl (v3))]) (st' := [.inl (v3)]) (M' := M) rfl trivial ?_
    obtain ⟨b0, ht, hf⟩ := h
    refine am_Wbr (P := [am_rg v3]) (c := v3 ≤ 0) (t := 38) (f := 14) (st' := []) rfl rfl ⟨b0, trivial⟩ rfl (fun q => ?_) (fun q => ?_)
    · have h := ht q
      refine am_Wrun 1 (ps := []) (pc' := 39) (lv' := [(0, .inr (.inl (some 10))), (1, .inl (v1)), (2, .inl (v2)), (3, .inl (v3))]) (st' := [.inl (v2)]) (M' := M) rfl trivial ?_
      exact am_Wreti rfl rfl h
    · have h := hf q
      refine am_Wrun 6 (ps := []) (pc' := 20) (lv' := [(0, .inr (.inl (some 10))), (1, .inl (v1)), (2, .inl (v2)), (3, .inl (v3))]) (st' := [.inl ((v2 + v3) - 1), .inr (.inl (some 10))]) (M' := M) rfl trivial ?_
      refine am_WcallV (y := 58) (n := 2) (a := 10) (f := 23) (as := [.inl ((v2 + v3) - 1)]) (st' := []) rfl rfl rfl rfl rfl rfl rfl rfl rfl rfl (Nat.zero_le _) rfl (am_CC_le (Nat.le_of_ble_eq_true rfl) (tm_X4_findFewest h)) (fun r M3 q => ?_) (fun _ _ q => q.elim)
      obtain ⟨x2, rfl, h⟩ := q
      refine am_Wrun 1 (ps := []) (pc' := 24) (lv' := [(0, .inr (.inl (some 10))), (1, .inl (v1)), (2, .inl (v2)), (3, .inl (v3))]) (st' := [.inl (v1), .inl (x2)]) (M' := M3) rfl trivial ?_
      obtain ⟨b0, b1, ht, hf⟩ := h
      refine am_Wbr (P := [am_rg x2, am_rg v1]) (c := x2 ≤ v1) (t := 31) (f := 27) (st' := []) rfl rfl ⟨b0, b1, trivial⟩ rfl (fun q => ?_) (fun q => ?_)
      · have h := ht q
        obtain ⟨c0_0, h⟩ := h
        refine am_Wrun 5 (ps := [am_rg v3 ∧ am_rg 2 ∧ (0 : Int) < 2]) (pc' := 10) (lv' := [(3, .inl (Int.tdiv v3 2)), (0, .inr (.inl (some 10))), (1, .inl (v1)), (2, .inl (v2))]) (st' := []) (M' := M3) rfl ⟨c0_0, trivial⟩ ?_
        refine am_W_sub [1, 2, 3, 0] rfl ?_
        exact tw_X4_leastOathFor_10 n v1 v2 (Int.tdiv v3 2) M3 h
      · have h := hf q
        obtain ⟨c0_0, h⟩ := h
        refine am_Wrun 9 (ps := [am_rg v3 ∧ am_rg 2 ∧ (0 : Int) < 2]) (pc' := 10) (lv' := [(3, .inl (Int.tdiv v3 2)), (2, .inl (v2 + v3)), (0, .inr (.inl (some 10))), (1, .inl (v1))]) (st' := []) (M' := M3) rfl ⟨c0_0, trivial⟩ ?_
        refine am_W_sub [2, 3, 1, 0] rfl ?_
        exact tw_X4_leastOathFor_10 n v1 (v2 + v3) (Int.tdiv v3 2) M3 h
set_option maxRecDepth 20000 in
theorem tm_X4_leastOathFor {a0 : Int} {M : am_M} {Q : Int → am_M → Prop} (h : wp_X4_leastOathFor a0 M Q) : am_CC 4 71 [.inr (.inl (some 10)), .inl (a0)] M (am_QI Q) (fun _ _ => False) := by
  refine ⟨Nat.le_of_ble_eq_true rfl, ?_⟩
  show am_W (am_CC 3) dt_X4_leastOathFor 3 0 none (am_QI Q) (am_qx 71 (fun _ _ => False)) (0, 0, [(0, .inr (.inl (some 10))), (1, .inl (a0))], [], M)
  refine am_Wrun 1 (ps := []) (pc' := 1) (lv' := [(0, .inr (.inl (some 10))), (1, .inl (a0))]) (st' := [.inr (.inl (some 10))]) (M' := M) rfl trivial ?_
  refine am_WcallV (y := 56) (n := 1) (a := 10) (f := 4) (as := []) (st' := []) rfl rfl rfl rfl rfl rfl rfl rfl rfl rfl (Nat.zero_le _) rfl (am_CC_le (Nat.le_of_ble_eq_true rfl) (tm_X4_findNeeds h)) (fun r M1 q => ?_) (fun _ _ q => q.elim)
  obtain ⟨rfl, h⟩ := q
  refine am_Wrun 4 (ps := [-32768 ≤ (256 : Int) ∧ (256 : Int) ≤ 32767]) (pc' := 10) (lv' := [(3, .inl (256)), (2, .inl (0)), (0, .inr (.inl (some 10))), (1, .inl (a0))]) (st' := []) (M' := M1) rfl ⟨⟨by decide, by decide⟩, trivial⟩ ?_
  refine am_W_sub [2, 3, 1, 0] rfl ?_
  obtain ⟨n10, h⟩ := h
  exact tw_X4_leastOathFor_10 n10 a0 0 256 M1 h
abbrev dt_X5_leastOath : am_D := (tk_X5_leastOath, 5, 3, some .int, tb_hn 70)
def wp_X5_leastOath (a0 : Int) (M : am_M) (Q : Int → am_M → Prop) (X : am_X) : Prop := wp_X5_refuseOutside a0 60 M (fun M1 => wp_X4_leastOathFor a0 M1 (fun x2 M3 => (am_rg x2) ∧ (500 < x2 → Q (-1000000) M3) ∧ (¬ 500 < x2 → Q x2 M3))) X
set_option maxRecDepth 20000 in
theorem tm_X5_leastOath {a0 : Int} {M : am_M} {Q : Int → am_M → Prop} {X : am_X} (h : wp_X5_leastOath a0 M Q X) : am_CC 7 70 [.inr (.inl (some 0)), .inl (a0)] M (am_QI Q) X := by
  refine ⟨Nat.le_of_ble_eq_true rfl, ?_⟩
  show am_W (am_CC 6) dt_X5_leastOath 6 0 none (am_QI Q) (am_qx 70 X) (0, 0, [(0, .inr (.inl (some 0))), (1, .inl (a0))], [], M)
  have hX : ∀ E M, X E M → am_qx 70 X E M := fun E M q => ⟨⟨rfl, by decide⟩, q⟩
  refine am_Wrun 2 (ps := [-128 ≤ (60 : Int) ∧ (60 : Int) ≤ 127]) (pc' := 3) (lv' := [(0, .inr (.inl (some 0))), (1, .inl (a0))]) (st' := [.inl (60), .inl (a0)]) (M' := M) rfl ⟨⟨by decide, by decide⟩, trivial⟩ ?_
  refine am_WcallS (y := 34) (n := 2) (f := 6) (co := 0) (as := [.inl (a0), .inl (60)]) (st' := []) rfl rfl rfl rfl rfl rfl rfl rfl rfl (Nat.zero_le _) rfl (am_CC_le (Nat.le_of_ble_eq_true rfl) (tm_X5_refuseOutside h)) (fun r M1 q => ?_) (fun E M q => hX _ _ q)
  obtain ⟨rfl, h⟩ := q
  refine am_Wrun 3 (ps := []) (pc' := 11) (lv' := [(0, .inr (.inl (some 0))), (1, .inl (a0))]) (st' := [.inl (a0), .inr (.inl (some 10))]) (M' := M1) rfl trivial ?_
  refine am_WcallV (y := 71) (n := 2) (a := 10) (f := 14) (as := [.inl (a0)]) (st' := []) rfl rfl rfl rfl rfl rfl rfl rfl rfl rfl (Nat.zero_le _) rfl (am_CC_le (Nat.le_of_ble_eq_true rfl) (tm_X4_leastOathFor h)) (fun r M3 q => ?_) (fun _ _ q => q.elim)
  obtain ⟨x2, rfl, h⟩ := q
  refine am_Wrun 3 (ps := [-32768 ≤ (500 : Int) ∧ (500 : Int) ≤ 32767]) (pc' := 19) (lv' := [(2, .inl (x2)), (0, .inr (.inl (some 0))), (1, .inl (a0))]) (st' := [.inl (500), .inl (x2)]) (M' := M3) rfl ⟨⟨by decide, by decide⟩, trivial⟩ ?_
  obtain ⟨b0, ht, hf⟩ := h
  refine am_Wbr (P := [am_rg x2, am_rg 500]) (c := 500 < x2) (t := 26) (f := 22) (st' := []) rfl rfl ⟨b0, (am_rgd rfl), trivial⟩ rfl (fun q => ?_) (fun q => ?_)
  · have h := ht q
    refine am_Wrun 1 (ps := []) (pc' := 28) (lv' := [(2, .inl (x2)), (0, .inr (.inl (some 0))), (1, .inl (a0))]) (st' := [.inl ((-1000000))]) (M' := M3) rfl trivial ?_
    exact am_Wreti rfl rfl h
  · have h := hf q
    refine am_Wrun 2 (ps := []) (pc' := 28) (lv' := [(2, .inl (x2)), (0, .inr (.inl (some 0))), (1, .inl (a0))]) (st' := [.inl (x2)]) (M' := M3) rfl trivial ?_
    exact am_Wreti rfl rfl h
abbrev dt_L_leastOath : am_D := (tk_L_leastOath, 9, 4, some .int, tb_hn 220)
def wp_L_leastOath (a1 : Int) (M : am_M) (Q : Int → am_M → Prop) : Prop := wp_X5_leastOath a1 M (fun x1 M2 => (am_rg x1) ∧ (Q 0 (am_up M2 80 0 x1))) (fun E M3 => (E = 0 ∧ Q 1 M3))
set_option maxRecDepth 20000 in
theorem tm_L_leastOath {a1 : Int} {M : am_M} {Q : Int → am_M → Prop} (h : wp_L_leastOath a1 M Q) : am_CC 8 220 [.inr (.inl (some 0)), .inl (a1), .inr (.inl (some 80))] M (am_QI Q) (fun _ _ => False) := by
  refine ⟨Nat.le_of_ble_eq_true rfl, ?_⟩
  show am_W (am_CC 7) dt_L_leastOath 7 1 none (am_QI Q) (am_qx 220 (fun _ _ => False)) (0, 0, [(0, .inr (.inl (some 0))), (1, .inl (a1)), (2, .inr (.inl (some 80)))], [], M)
  refine am_Wrun 4 (ps := []) (pc' := 4) (lv' := [(0, .inr (.inl (some 0))), (1, .inl (a1)), (2, .inr (.inl (some 80)))]) (st' := [.inl (a1), .inr (.inl (some 0)), .inl (0), .inr (.inl (some 80))]) (M' := M) rfl trivial ?_
  refine am_WcallV (y := 70) (n := 2) (a := 0) (f := 7) (as := [.inl (a1)]) (st' := [.inl (0), .inr (.inl (some 80))]) rfl rfl rfl rfl rfl rfl rfl rfl rfl rfl (Nat.zero_le _) rfl (am_CC_le (Nat.le_of_ble_eq_true rfl) (tm_X5_leastOath h)) (fun r M2 q => ?_) (fun E M3 q => ?_)
  · obtain ⟨x1, rfl, h⟩ := q
    obtain ⟨c0_0, h⟩ := h
    refine am_Wrun 4 (ps := [am_rg x1, 0 ≤ (0 : Int) ∧ (0 : Int) < 1]) (pc' := 16) (lv' := [(0, .inr (.inl (some 0))), (1, .inl (a1)), (2, .inr (.inl (some 80)))]) (st' := [.inl (0)]) (M' := (am_up M2 80 0 x1)) rfl ⟨c0_0, ⟨by decide, by decide⟩, trivial⟩ ?_
    exact am_Wreti rfl rfl h
  · rcases q with ⟨rfl, h⟩
    · show 0 + 1 ≤ 1 ∧ am_W (am_CC 7) dt_L_leastOath 7 1 none (am_QI Q) _ (0 + 1, 13, [(0, .inr (.inl (some 0))), (1, .inl (a1)), (2, .inr (.inl (some 80)))], [], M3)
      refine ⟨Nat.le_refl _, ?_⟩
      refine am_Wrun 1 (ps := []) (pc' := 14) (lv' := [(0, .inr (.inl (some 0))), (1, .inl (a1)), (2, .inr (.inl (some 80)))]) (st' := [.inl (1)]) (M' := M3) rfl trivial ?_
      exact am_Wreti rfl rfl h
abbrev dt_X6_fewestBy : am_D := (tk_X6_fewestBy, 6, 5, some .int, tb_hn 191)
def wl_X6_fewestBy_4 (Q : Int → am_M → Prop) : Nat → Int → Int → Int → am_M → Prop
  | 0, _, _, _, _ => False
  | n + 1, v1, v2, v3, M => (am_rg v3) ∧ (am_rg (M 70 0)) ∧ ((M 70 0) ≤ v3 → Q v2 M) ∧ (¬ (M 70 0) ≤ v3 → wp_X6_lastWith v3 M (fun x1 M2 => wp_X6_few v3 x1 v1 M2 (fun M3 => (0 ≤ (v3 : Int) ∧ (v3 : Int) < 60) ∧ (wl_X6_fewestBy_4 Q n v1 (v2 + (M3 76 v3)) (x1 + 1) M3))))
def wp_X6_fewestBy (a0 : Int) (M : am_M) (Q : Int → am_M → Prop) : Prop := ∃ e4, wl_X6_fewestBy_4 Q e4 a0 0 0 M
set_option maxRecDepth 20000 in
theorem tw_X6_fewestBy_4 {Q : Int → am_M → Prop} {QX : am_X} : ∀ (n : Nat) (v1 : Int) (v2 : Int) (v3 : Int) (M : am_M), wl_X6_fewestBy_4 Q n v1 v2 v3 M → am_W (am_CC 6) dt_X6_fewestBy 6 0 none (am_QI Q) QX (0, 4, [(0, .inr (.inl (some 69))), (1, .inl (v1)), (2, .inl (v2)), (3, .inl (v3))], [], M)
  | 0, _, _, _, _, h => h.elim
  | n + 1, v1, v2, v3, M, h => by
    refine am_Wrun 5 (ps := [0 ≤ (0 : Int) ∧ (0 : Int) < 203]) (pc' := 11) (lv' := [(0, .inr (.inl (some 69))), (1, .inl (v1)), (2, .inl (v2)), (3, .inl (v3))]) (st' := [.inl (M 70 0), .inl (v3)]) (M' := M) rfl ⟨⟨by decide, by decide⟩, trivial⟩ ?_
    obtain ⟨b0, b1, ht, hf⟩ := h
    refine am_Wbr (P := [am_rg v3, am_rg (M 70 0)]) (c := (M 70 0) ≤ v3) (t := 46) (f := 14) (st' := []) rfl rfl ⟨b0, b1, trivial⟩ rfl (fun q => ?_) (fun q => ?_)
    · have h := ht q
      refine am_Wrun 1 (ps := []) (pc' := 47) (lv' := [(0, .inr (.inl (some 69))), (1, .inl (v1)), (2, .inl (v2)), (3, .inl (v3))]) (st' := [.inl (v2)]) (M' := M) rfl trivial ?_
      exact am_Wreti rfl rfl h
    · have h := hf q
      refine am_Wrun 2 (ps := []) (pc' := 16) (lv' := [(0, .inr (.inl (some 69))), (1, .inl (v1)), (2, .inl (v2)), (3, .inl (v3))]) (st' := [.inl (v3), .inr (.inl (some 69))]) (M' := M) rfl trivial ?_
      refine am_WcallV (y := 145) (n := 2) (a := 69) (f := 19) (as := [.inl (v3)]) (st' := []) rfl rfl rfl rfl rfl rfl rfl rfl rfl rfl (Nat.zero_le _) rfl (am_CC_le (Nat.le_of_ble_eq_true rfl) (tm_X6_lastWith h)) (fun r M2 q => ?_) (fun _ _ q => q.elim)
      obtain ⟨x1, rfl, h⟩ := q
      refine am_Wrun 5 (ps := []) (pc' := 26) (lv' := [(4, .inl (x1)), (0, .inr (.inl (some 69))), (1, .inl (v1)), (2, .inl (v2)), (3, .inl (v3))]) (st' := [.inl (v1), .inl (x1), .inl (v3), .inr (.inl (some 69))]) (M' := M2) rfl trivial ?_
      refine am_WcallV (y := 149) (n := 4) (a := 69) (f := 29) (as := [.inl (v3), .inl (x1), .inl (v1)]) (st' := []) rfl rfl rfl rfl rfl rfl rfl rfl rfl rfl (Nat.zero_le _) rfl (am_CC_le (Nat.le_of_ble_eq_true rfl) (tm_X6_few h)) (fun r M3 q => ?_) (fun _ _ q => q.elim)
      obtain ⟨rfl, h⟩ := q
      obtain ⟨c0_0, h⟩ := h
      refine am_Wrun 12 (ps := [0 ≤ (v3 : Int) ∧ (v3 : Int) < 60]) (pc' := 4) (lv' := [(3, .inl (x1 + 1)), (2, .inl (v2 + (M3 76 v3))), (4, .inl (x1)), (0, .inr (.inl (some 69))), (1, .inl (v1))]) (st' := []) (M' := M3) rfl ⟨c0_0, trivial⟩ ?_
      refine am_W_sub [3, 4, 1, 0] rfl ?_
      exact tw_X6_fewestBy_4 n v1 (v2 + (M3 76 v3)) (x1 + 1) M3 h
set_option maxRecDepth 20000 in
theorem tm_X6_fewestBy {a0 : Int} {M : am_M} {Q : Int → am_M → Prop} (h : wp_X6_fewestBy a0 M Q) : am_CC 7 191 [.inr (.inl (some 69)), .inl (a0)] M (am_QI Q) (fun _ _ => False) := by
  refine ⟨Nat.le_of_ble_eq_true rfl, ?_⟩
  show am_W (am_CC 6) dt_X6_fewestBy 6 0 none (am_QI Q) (am_qx 191 (fun _ _ => False)) (0, 0, [(0, .inr (.inl (some 69))), (1, .inl (a0))], [], M)
  refine am_Wrun 4 (ps := []) (pc' := 4) (lv' := [(3, .inl (0)), (2, .inl (0)), (0, .inr (.inl (some 69))), (1, .inl (a0))]) (st' := []) (M' := M) rfl trivial ?_
  refine am_W_sub [2, 3, 1, 0] rfl ?_
  obtain ⟨n4, h⟩ := h
  exact tw_X6_fewestBy_4 n4 a0 0 0 M h
abbrev dt_X6_oathFor : am_D := (tk_X6_oathFor, 6, 5, some .int, tb_hn 190)
def wl_X6_oathFor_20 (Q : Int → am_M → Prop) : Nat → Int → Int → Int → am_M → Prop
  | 0, _, _, _, _ => False
  | n + 1, v1, v2, v3, M => (am_rg v2) ∧ (am_rg v3) ∧ (v3 ≤ v2 → Q v2 M) ∧ (¬ v3 ≤ v2 → (am_rg (v2 + v3) ∧ am_rg 2 ∧ (0 : Int) < 2) ∧ (wp_X6_fewestBy (Int.tdiv (v2 + v3) 2) M (fun x3 M4 => (am_rg x3) ∧ (am_rg v1) ∧ (v1 < x3 → wl_X6_oathFor_20 Q n v1 ((Int.tdiv (v2 + v3) 2) + 1) v3 M4) ∧ (¬ v1 < x3 → wl_X6_oathFor_20 Q n v1 v2 (Int.tdiv (v2 + v3) 2) M4))))
def wp_X6_oathFor (a0 : Int) (M : am_M) (Q : Int → am_M → Prop) : Prop := wp_X6_fewestBy 500 M (fun x1 M2 => (am_rg x1) ∧ (am_rg a0) ∧ (x1 ≤ a0 → ∃ e20, wl_X6_oathFor_20 Q e20 a0 0 500 M2) ∧ (¬ x1 ≤ a0 → Q (-1000000) M2))
set_option maxRecDepth 20000 in
theorem tw_X6_oathFor_20 {Q : Int → am_M → Prop} {QX : am_X} : ∀ (n : Nat) (v1 : Int) (v2 : Int) (v3 : Int) (M : am_M), wl_X6_oathFor_20 Q n v1 v2 v3 M → am_W (am_CC 7) dt_X6_oathFor 7 0 none (am_QI Q) QX (0, 20, [(0, .inr (.inl (some 69))), (1, .inl (v1)), (2, .inl (v2)), (3, .inl (v3))], [], M)
  | 0, _, _, _, _, h => h.elim
  | n + 1, v1, v2, v3, M, h => by
    refine am_Wrun 2 (ps := []) (pc' := 22) (lv' := [(0, .inr (.inl (some 69))), (1, .inl (v1)), (2, .inl (v2)), (3, .inl (v3))]) (st' := [.inl (v3), .inl (v2)]) (M' := M) rfl trivial ?_
    obtain ⟨b0, b1, ht, hf⟩ := h
    refine am_Wbr (P := [am_rg v2, am_rg v3]) (c := v3 ≤ v2) (t := 56) (f := 25) (st' := []) rfl rfl ⟨b0, b1, trivial⟩ rfl (fun q => ?_) (fun q => ?_)
    · have h := ht q
      refine am_Wrun 1 (ps := []) (pc' := 57) (lv' := [(0, .inr (.inl (some 69))), (1, .inl (v1)), (2, .inl (v2)), (3, .inl (v3))]) (st' := [.inl (v2)]) (M' := M) rfl trivial ?_
      exact am_Wreti rfl rfl h
    · have h := hf q
      obtain ⟨c0_0, h⟩ := h
      refine am_Wrun 8 (ps := [am_rg (v2 + v3) ∧ am_rg 2 ∧ (0 : Int) < 2]) (pc' := 35) (lv' := [(4, .inl (Int.tdiv (v2 + v3) 2)), (0, .inr (.inl (some 69))), (1, .inl (v1)), (2, .inl (v2)), (3, .inl (v3))]) (st' := [.inl (Int.tdiv (v2 + v3) 2), .inr (.inl (some 69))]) (M' := M) rfl ⟨c0_0, trivial⟩ ?_
      refine am_WcallV (y := 191) (n := 2) (a := 69) (f := 38) (as := [.inl (Int.tdiv (v2 + v3) 2)]) (st' := []) rfl rfl rfl rfl rfl rfl rfl rfl rfl rfl (Nat.zero_le _) rfl (am_CC_le (Nat.le_of_ble_eq_true rfl) (tm_X6_fewestBy h)) (fun r M4 q => ?_) (fun _ _ q => q.elim)
      obtain ⟨x3, rfl, h⟩ := q
      refine am_Wrun 1 (ps := []) (pc' := 39) (lv' := [(4, .inl (Int.tdiv (v2 + v3) 2)), (0, .inr (.inl (some 69))), (1, .inl (v1)), (2, .inl (v2)), (3, .inl (v3))]) (st' := [.inl (v1), .inl (x3)]) (M' := M4) rfl trivial ?_
      obtain ⟨b0, b1, ht, hf⟩ := h
      refine am_Wbr (P := [am_rg x3, am_rg v1]) (c := v1 < x3) (t := 48) (f := 42) (st' := []) rfl rfl ⟨b0, b1, trivial⟩ rfl (fun q => ?_) (fun q => ?_)
      · have h := ht q
        refine am_Wrun 5 (ps := []) (pc' := 20) (lv' := [(2, .inl ((Int.tdiv (v2 + v3) 2) + 1)), (4, .inl (Int.tdiv (v2 + v3) 2)), (0, .inr (.inl (some 69))), (1, .inl (v1)), (3, .inl (v3))]) (st' := []) (M' := M4) rfl trivial ?_
        refine am_W_sub [2, 3, 0, 4] rfl ?_
        exact tw_X6_oathFor_20 n v1 ((Int.tdiv (v2 + v3) 2) + 1) v3 M4 h
      · have h := hf q
        refine am_Wrun 4 (ps := []) (pc' := 20) (lv' := [(3, .inl (Int.tdiv (v2 + v3) 2)), (4, .inl (Int.tdiv (v2 + v3) 2)), (0, .inr (.inl (some 69))), (1, .inl (v1)), (2, .inl (v2))]) (st' := []) (M' := M4) rfl trivial ?_
        refine am_W_sub [2, 3, 4, 0] rfl ?_
        exact tw_X6_oathFor_20 n v1 v2 (Int.tdiv (v2 + v3) 2) M4 h
set_option maxRecDepth 20000 in
theorem tm_X6_oathFor {a0 : Int} {M : am_M} {Q : Int → am_M → Prop} (h : wp_X6_oathFor a0 M Q) : am_CC 8 190 [.inr (.inl (some 69)), .inl (a0)] M (am_QI Q) (fun _ _ => False) := by
  refine ⟨Nat.le_of_ble_eq_true rfl, ?_⟩
  show am_W (am_CC 7) dt_X6_oathFor 7 0 none (am_QI Q) (am_qx 190 (fun _ _ => False)) (0, 0, [(0, .inr (.inl (some 69))), (1, .inl (a0))], [], M)
  refine am_Wrun 2 (ps := [-32768 ≤ (500 : Int) ∧ (500 : Int) ≤ 32767]) (pc' := 4) (lv' := [(0, .inr (.inl (some 69))), (1, .inl (a0))]) (st' := [.inl (500), .inr (.inl (some 69))]) (M' := M) rfl ⟨⟨by decide, by decide⟩, trivial⟩ ?_
  refine am_WcallV (y := 191) (n := 2) (a := 69) (f := 7) (as := [.inl (500)]) (st' := []) rfl rfl rfl rfl rfl rfl rfl rfl rfl rfl (Nat.zero_le _) rfl (am_CC_le (Nat.le_of_ble_eq_true rfl) (tm_X6_fewestBy h)) (fun r M2 q => ?_) (fun _ _ q => q.elim)
  obtain ⟨x1, rfl, h⟩ := q
  refine am_Wrun 1 (ps := []) (pc' := 8) (lv' := [(0, .inr (.inl (some 69))), (1, .inl (a0))]) (st' := [.inl (a0), .inl (x1)]) (M' := M2) rfl trivial ?_
  obtain ⟨b0, b1, ht, hf⟩ := h
  refine am_Wbr (P := [am_rg x1, am_rg a0]) (c := x1 ≤ a0) (t := 14) (f := 11) (st' := []) rfl rfl ⟨b0, b1, trivial⟩ rfl (fun q => ?_) (fun q => ?_)
  · have h := ht q
    refine am_Wrun 4 (ps := [-32768 ≤ (500 : Int) ∧ (500 : Int) ≤ 32767]) (pc' := 20) (lv' := [(3, .inl (500)), (2, .inl (0)), (0, .inr (.inl (some 69))), (1, .inl (a0))]) (st' := []) (M' := M2) rfl ⟨⟨by decide, by decide⟩, trivial⟩ ?_
    refine am_W_sub [2, 3, 1, 0] rfl ?_
    obtain ⟨n20, h⟩ := h
    exact tw_X6_oathFor_20 n20 a0 0 500 M2 h
  · have h := hf q
    refine am_Wrun 1 (ps := []) (pc' := 13) (lv' := [(0, .inr (.inl (some 69))), (1, .inl (a0))]) (st' := [.inl ((-1000000))]) (M' := M2) rfl trivial ?_
    exact am_Wreti rfl rfl h
abbrev dt_X6_leastOath : am_D := (tk_X6_leastOath, 6, 2, some .int, tb_hn 189)
def wp_X6_leastOath (a0 : Int) (M : am_M) (Q : Int → am_M → Prop) : Prop := wp_X6_in a0 0 60 (am_up M 69 5 0) (fun x1 M2 => (am_rg x1) ∧ (x1 = 0 → wp_X6_fails 1 M2 (fun x3 M4 => Q x3 M4)) ∧ (¬ x1 = 0 → wp_X6_oathFor a0 M2 (fun x5 M6 => Q x5 M6)))
set_option maxRecDepth 20000 in
theorem tm_X6_leastOath {a0 : Int} {M : am_M} {Q : Int → am_M → Prop} (h : wp_X6_leastOath a0 M Q) : am_CC 9 189 [.inr (.inl (some 69)), .inl (a0)] M (am_QI Q) (fun _ _ => False) := by
  refine ⟨Nat.le_of_ble_eq_true rfl, ?_⟩
  show am_W (am_CC 8) dt_X6_leastOath 8 0 none (am_QI Q) (am_qx 189 (fun _ _ => False)) (0, 0, [(0, .inr (.inl (some 69))), (1, .inl (a0))], [], M)
  refine am_Wrun 6 (ps := [-128 ≤ (60 : Int) ∧ (60 : Int) ≤ 127]) (pc' := 9) (lv' := [(0, .inr (.inl (some 69))), (1, .inl (a0))]) (st' := [.inl (60), .inl (0), .inl (a0)]) (M' := (am_up M 69 5 0)) rfl ⟨⟨by decide, by decide⟩, trivial⟩ ?_
  refine am_WcallS (y := 112) (n := 3) (f := 12) (co := 0) (as := [.inl (a0), .inl (0), .inl (60)]) (st' := []) rfl rfl rfl rfl rfl rfl rfl rfl rfl (Nat.zero_le _) rfl (am_CC_le (Nat.le_of_ble_eq_true rfl) (tm_X6_in h)) (fun r M2 q => ?_) (fun _ _ q => q.elim)
  obtain ⟨x1, rfl, h⟩ := q
  obtain ⟨b0, ht, hf⟩ := h
  refine am_Wbr (P := [am_rg x1]) (c := x1 = 0) (t := 23) (f := 15) (st' := []) rfl rfl ⟨b0, trivial⟩ rfl (fun q => ?_) (fun q => ?_)
  · have h := ht q
    refine am_Wrun 2 (ps := []) (pc' := 25) (lv' := [(0, .inr (.inl (some 69))), (1, .inl (a0))]) (st' := [.inl (1), .inr (.inl (some 69))]) (M' := M2) rfl trivial ?_
    refine am_WcallV (y := 113) (n := 2) (a := 69) (f := 28) (as := [.inl (1)]) (st' := []) rfl rfl rfl rfl rfl rfl rfl rfl rfl rfl (Nat.zero_le _) rfl (am_CC_le (Nat.le_of_ble_eq_true rfl) (tm_X6_fails h)) (fun r M4 q => ?_) (fun _ _ q => q.elim)
    obtain ⟨x3, rfl, h⟩ := q
    exact am_Wreti rfl rfl h
  · have h := hf q
    refine am_Wrun 2 (ps := []) (pc' := 17) (lv' := [(0, .inr (.inl (some 69))), (1, .inl (a0))]) (st' := [.inl (a0), .inr (.inl (some 69))]) (M' := M2) rfl trivial ?_
    refine am_WcallV (y := 190) (n := 2) (a := 69) (f := 20) (as := [.inl (a0)]) (st' := []) rfl rfl rfl rfl rfl rfl rfl rfl rfl rfl (Nat.zero_le _) rfl (am_CC_le (Nat.le_of_ble_eq_true rfl) (tm_X6_oathFor h)) (fun r M6 q => ?_) (fun _ _ q => q.elim)
    obtain ⟨x5, rfl, h⟩ := q
    refine am_Wrun 1 (ps := []) (pc' := 28) (lv' := [(0, .inr (.inl (some 69))), (1, .inl (a0))]) (st' := [.inl (x5)]) (M' := M6) rfl trivial ?_
    exact am_Wreti rfl rfl h
abbrev dt_X1_leastMissed : am_D := (tk_X1_leastMissed, 1, 11, some .int, tb_hn 73)
def wj_X1_leastMissed_88 (Q : Int → am_M → Prop) (k11 : Int → Int → Int → Int → am_M → Prop) (v6 : Int) (v7 : Int) (v9 : Int) (M : am_M) : Prop := k11 v6 v7 v9 (v6 + 1) M
def wl_X1_leastMissed_11 (Q : Int → am_M → Prop) : Nat → Int → Int → Int → Int → am_M → Prop
  | 0, _, _, _, _, _ => False
  | n + 1, v1, v2, v4, v6, M => (am_rg v6) ∧ (am_rg (M 1 7)) ∧ ((M 1 7) ≤ v6 → Q v1 M) ∧ (¬ (M 1 7) ≤ v6 → wp_X1_reasonToKeep v6 M (fun x1 M2 => (am_rg x1) ∧ (¬ x1 = 0 → wl_X1_leastMissed_11 Q n v1 v2 v4 (v6 + 1) M2) ∧ (¬ (¬ x1 = 0) → wp_X2_earlierKept v6 M2 (fun x3 M4 => wp_X2_laterKept v6 M4 (fun x5 M6 => wp_X1_findWorst x3 x5 M6 (fun x7 M8 => (am_rg (M8 9 1)) ∧ (am_rg (M8 9 2)) ∧ ((am_rg v1) ∧ (v1 = (-1000000) → wj_X1_leastMissed_88 Q (wl_X1_leastMissed_11 Q n) v6 (M8 9 1) (M8 9 2) M8) ∧ (¬ v1 = (-1000000) → ((am_rl ((M8 9 1) * v4) ∧ am_rl (v2 * (M8 9 2))) ∨ ((M8 9 1) * v4) = (v2 * (M8 9 2))) ∧ ((am_rg (am_lci ((M8 9 1) * v4) (v2 * (M8 9 2)))) ∧ (0 ≤ (am_lci ((M8 9 1) * v4) (v2 * (M8 9 2))) → wl_X1_leastMissed_11 Q n v1 v2 v4 (v6 + 1) M8) ∧ (¬ 0 ≤ (am_lci ((M8 9 1) * v4) (v2 * (M8 9 2))) → wj_X1_leastMissed_88 Q (wl_X1_leastMissed_11 Q n) v6 (M8 9 1) (M8 9 2) M8))))))))))
def wp_X1_leastMissed (M : am_M) (Q : Int → am_M → Prop) : Prop := ∃ e11, wl_X1_leastMissed_11 Q e11 (-1000000) 0 1 0 M
set_option maxRecDepth 20000 in
theorem tj_X1_leastMissed_88 {Q : Int → am_M → Prop} {QX : am_X} {k11 : Int → Int → Int → Int → am_M → Prop} (hk11 : ∀ (v1 : Int) (v2 : Int) (v4 : Int) (v6 : Int) (M : am_M), k11 v1 v2 v4 v6 M → am_W (am_CC 4) dt_X1_leastMissed 4 0 none (am_QI Q) QX (0, 11, [(0, .inr (.inl (some 9))), (1, .inl (v1)), (2, .inr (.inr (.inl (v2)))), (4, .inr (.inr (.inl (v4)))), (6, .inl (v6))], [], M)) (v6 : Int) (v7 : Int) (v9 : Int) (M : am_M) (h : wj_X1_leastMissed_88 Q k11 v6 v7 v9 M) : am_W (am_CC 4) dt_X1_leastMissed 4 0 none (am_QI Q) QX (0, 88, [(0, .inr (.inl (some 9))), (6, .inl (v6)), (7, .inr (.inr (.inl (v7)))), (9, .inr (.inr (.inl (v9))))], [], M) := by
  refine am_Wrun 8 (ps := []) (pc' := 11) (lv' := [(6, .inl (v6 + 1)), (4, .inr (.inr (.inl (v9)))), (2, .inr (.inr (.inl (v7)))), (1, .inl (v6)), (0, .inr (.inl (some 9))), (7, .inr (.inr (.inl (v7)))), (9, .inr (.inr (.inl (v9))))]) (st' := []) (M' := M) rfl trivial ?_
  refine am_W_sub [4, 3, 2, 1, 0] rfl ?_
  exact hk11 v6 v7 v9 (v6 + 1) M h
set_option maxRecDepth 20000 in
theorem tw_X1_leastMissed_11 {Q : Int → am_M → Prop} {QX : am_X} : ∀ (n : Nat) (v1 : Int) (v2 : Int) (v4 : Int) (v6 : Int) (M : am_M), wl_X1_leastMissed_11 Q n v1 v2 v4 v6 M → am_W (am_CC 4) dt_X1_leastMissed 4 0 none (am_QI Q) QX (0, 11, [(0, .inr (.inl (some 9))), (1, .inl (v1)), (2, .inr (.inr (.inl (v2)))), (4, .inr (.inr (.inl (v4)))), (6, .inl (v6))], [], M)
  | 0, _, _, _, _, _, h => h.elim
  | n + 1, v1, v2, v4, v6, M, h => by
    refine am_Wrun 4 (ps := []) (pc' := 20) (lv' := [(0, .inr (.inl (some 9))), (1, .inl (v1)), (2, .inr (.inr (.inl (v2)))), (4, .inr (.inr (.inl (v4)))), (6, .inl (v6))]) (st' := [.inl (M 1 7), .inl (v6)]) (M' := M) rfl trivial ?_
    obtain ⟨b0, b1, ht, hf⟩ := h
    refine am_Wbr (P := [am_rg v6, am_rg (M 1 7)]) (c := (M 1 7) ≤ v6) (t := 104) (f := 23) (st' := []) rfl rfl ⟨b0, b1, trivial⟩ rfl (fun q => ?_) (fun q => ?_)
    · have h := ht q
      refine am_Wrun 1 (ps := []) (pc' := 105) (lv' := [(0, .inr (.inl (some 9))), (1, .inl (v1)), (2, .inr (.inr (.inl (v2)))), (4, .inr (.inr (.inl (v4)))), (6, .inl (v6))]) (st' := [.inl (v1)]) (M' := M) rfl trivial ?_
      exact am_Wreti rfl rfl h
    · have h := hf q
      refine am_Wrun 2 (ps := []) (pc' := 26) (lv' := [(0, .inr (.inl (some 9))), (1, .inl (v1)), (2, .inr (.inr (.inl (v2)))), (4, .inr (.inr (.inl (v4)))), (6, .inl (v6))]) (st' := [.inl (v6), .inr (.inl (some 9))]) (M' := M) rfl trivial ?_
      refine am_WcallV (y := 45) (n := 2) (a := 9) (f := 29) (as := [.inl (v6)]) (st' := []) rfl rfl rfl rfl rfl rfl rfl rfl rfl rfl (Nat.zero_le _) rfl (am_CC_le (Nat.le_of_ble_eq_true rfl) (tm_X1_reasonToKeep h)) (fun r M2 q => ?_) (fun _ _ q => q.elim)
      obtain ⟨x1, rfl, h⟩ := q
      obtain ⟨b0, ht, hf⟩ := h
      refine am_Wbr (P := [am_rg x1]) (c := ¬ x1 = 0) (t := 98) (f := 32) (st' := []) rfl rfl ⟨b0, trivial⟩ rfl (fun q => ?_) (fun q => ?_)
      · have h := ht q
        refine am_Wrun 2 (ps := []) (pc' := 11) (lv' := [(6, .inl (v6 + 1)), (0, .inr (.inl (some 9))), (1, .inl (v1)), (2, .inr (.inr (.inl (v2)))), (4, .inr (.inr (.inl (v4))))]) (st' := []) (M' := M2) rfl trivial ?_
        refine am_W_sub [1, 2, 3, 4, 0] rfl ?_
        exact tw_X1_leastMissed_11 n v1 v2 v4 (v6 + 1) M2 h
      · have h := hf q
        refine am_Wrun 4 (ps := []) (pc' := 39) (lv' := [(0, .inr (.inl (some 9))), (1, .inl (v1)), (2, .inr (.inr (.inl (v2)))), (4, .inr (.inr (.inl (v4)))), (6, .inl (v6))]) (st' := [.inl (v6), .inr (.inl (some 1)), .inr (.inl (some 9))]) (M' := M2) rfl trivial ?_
        refine am_WcallV (y := 10) (n := 2) (a := 1) (f := 42) (as := [.inl (v6)]) (st' := [.inr (.inl (some 9))]) rfl rfl rfl rfl rfl rfl rfl rfl rfl rfl (Nat.zero_le _) rfl (am_CC_le (Nat.le_of_ble_eq_true rfl) (tm_X2_earlierKept h)) (fun r M4 q => ?_) (fun _ _ q => q.elim)
        obtain ⟨x3, rfl, h⟩ := q
        refine am_Wrun 3 (ps := []) (pc' := 48) (lv' := [(0, .inr (.inl (some 9))), (1, .inl (v1)), (2, .inr (.inr (.inl (v2)))), (4, .inr (.inr (.inl (v4)))), (6, .inl (v6))]) (st' := [.inl (v6), .inr (.inl (some 1)), .inl (x3), .inr (.inl (some 9))]) (M' := M4) rfl trivial ?_
        refine am_WcallV (y := 13) (n := 2) (a := 1) (f := 51) (as := [.inl (v6)]) (st' := [.inl (x3), .inr (.inl (some 9))]) rfl rfl rfl rfl rfl rfl rfl rfl rfl rfl (Nat.zero_le _) rfl (am_CC_le (Nat.le_of_ble_eq_true rfl) (tm_X2_laterKept h)) (fun r M6 q => ?_) (fun _ _ q => q.elim)
        obtain ⟨x5, rfl, h⟩ := q
        refine am_WcallV (y := 47) (n := 3) (a := 9) (f := 54) (as := [.inl (x3), .inl (x5)]) (st' := []) rfl rfl rfl rfl rfl rfl rfl rfl rfl rfl (Nat.zero_le _) rfl (am_CC_le (Nat.le_of_ble_eq_true rfl) (tm_X1_findWorst h)) (fun r M8 q => ?_) (fun _ _ q => q.elim)
        obtain ⟨x7, rfl, h⟩ := q
        obtain ⟨c0_0, c1_0, h⟩ := h
        refine am_Wrun 11 (ps := [am_rg (M8 9 1), am_rg (M8 9 2)]) (pc' := 72) (lv' := [(9, .inr (.inr (.inl (M8 9 2)))), (7, .inr (.inr (.inl (M8 9 1)))), (0, .inr (.inl (some 9))), (1, .inl (v1)), (2, .inr (.inr (.inl (v2)))), (4, .inr (.inr (.inl (v4)))), (6, .inl (v6))]) (st' := [.inl ((-1000000)), .inl (v1)]) (M' := M8) rfl ⟨c0_0, c1_0, trivial⟩ ?_
        obtain ⟨b0, ht, hf⟩ := h
        refine am_Wbr (P := [am_rg v1, am_rg (-1000000)]) (c := v1 = (-1000000)) (t := 88) (f := 75) (st' := []) rfl rfl ⟨b0, (am_rgd rfl), trivial⟩ rfl (fun q => ?_) (fun q => ?_)
        · have h := ht q
          refine am_W_sub [2, 6, 1, 0] rfl ?_
          exact tj_X1_leastMissed_88 (tw_X1_leastMissed_11 n) v6 (M8 9 1) (M8 9 2) M8 h
        · have h := hf q
          obtain ⟨c0_0, h⟩ := h
          refine am_Wrun 7 (ps := [(am_rl ((M8 9 1) * v4) ∧ am_rl (v2 * (M8 9 2))) ∨ ((M8 9 1) * v4) = (v2 * (M8 9 2))]) (pc' := 85) (lv' := [(9, .inr (.inr (.inl (M8 9 2)))), (7, .inr (.inr (.inl (M8 9 1)))), (0, .inr (.inl (some 9))), (1, .inl (v1)), (2, .inr (.inr (.inl (v2)))), (4, .inr (.inr (.inl (v4)))), (6, .inl (v6))]) (st' := [.inl (am_lci ((M8 9 1) * v4) (v2 * (M8 9 2)))]) (M' := M8) rfl ⟨c0_0, trivial⟩ ?_
          obtain ⟨b0, ht, hf⟩ := h
          refine am_Wbr (P := [am_rg (am_lci ((M8 9 1) * v4) (v2 * (M8 9 2)))]) (c := 0 ≤ (am_lci ((M8 9 1) * v4) (v2 * (M8 9 2)))) (t := 98) (f := 88) (st' := []) rfl rfl ⟨b0, trivial⟩ rfl (fun q => ?_) (fun q => ?_)
          · have h := ht q
            refine am_Wrun 2 (ps := []) (pc' := 11) (lv' := [(6, .inl (v6 + 1)), (9, .inr (.inr (.inl (M8 9 2)))), (7, .inr (.inr (.inl (M8 9 1)))), (0, .inr (.inl (some 9))), (1, .inl (v1)), (2, .inr (.inr (.inl (v2)))), (4, .inr (.inr (.inl (v4))))]) (st' := []) (M' := M8) rfl trivial ?_
            refine am_W_sub [3, 4, 5, 6, 0] rfl ?_
            exact tw_X1_leastMissed_11 n v1 v2 v4 (v6 + 1) M8 h
          · have h := hf q
            refine am_W_sub [2, 6, 1, 0] rfl ?_
            exact tj_X1_leastMissed_88 (tw_X1_leastMissed_11 n) v6 (M8 9 1) (M8 9 2) M8 h
set_option maxRecDepth 20000 in
theorem tm_X1_leastMissed {M : am_M} {Q : Int → am_M → Prop} (h : wp_X1_leastMissed M Q) : am_CC 5 73 [.inr (.inl (some 9))] M (am_QI Q) (fun _ _ => False) := by
  refine ⟨Nat.le_of_ble_eq_true rfl, ?_⟩
  show am_W (am_CC 4) dt_X1_leastMissed 4 0 none (am_QI Q) (am_qx 73 (fun _ _ => False)) (0, 0, [(0, .inr (.inl (some 9)))], [], M)
  refine am_Wrun 8 (ps := []) (pc' := 11) (lv' := [(6, .inl (0)), (4, .inr (.inr (.inl (1)))), (2, .inr (.inr (.inl (0)))), (1, .inl ((-1000000))), (0, .inr (.inl (some 9)))]) (st' := []) (M' := M) rfl trivial ?_
  refine am_W_sub [4, 3, 2, 1, 0] rfl ?_
  obtain ⟨n11, h⟩ := h
  exact tw_X1_leastMissed_11 n11 (-1000000) 0 1 0 M h
abbrev dt_X5_cheapest : am_D := (tk_X5_cheapest, 5, 3, some .int, tb_hn 72)
def wp_X5_cheapest (a0 : Int) (M : am_M) (Q : Int → am_M → Prop) (X : am_X) : Prop := wp_X5_refuseOutside a0 1 M (fun M1 => wp_X1_leastMissed M1 (fun x2 M3 => (am_rg x2) ∧ (x2 = (-1000000) → Q x2 M3) ∧ (¬ x2 = (-1000000) → (am_rg a0) ∧ (¬ a0 = 0 → wp_X2_earlierKept x2 M3 (fun x4 M5 => wp_X2_laterKept x2 M5 (fun x6 M7 => wp_X1_findWorst x4 x6 M7 (fun x8 M9 => wp_X5_roundedUp (M9 9 1) (M9 9 2) M9 (fun x10 M11 => Q x10 M11))))) ∧ (¬ (¬ a0 = 0) → Q x2 M3)))) X
set_option maxRecDepth 20000 in
theorem tm_X5_cheapest {a0 : Int} {M : am_M} {Q : Int → am_M → Prop} {X : am_X} (h : wp_X5_cheapest a0 M Q X) : am_CC 7 72 [.inr (.inl (some 0)), .inl (a0)] M (am_QI Q) X := by
  refine ⟨Nat.le_of_ble_eq_true rfl, ?_⟩
  show am_W (am_CC 6) dt_X5_cheapest 6 0 none (am_QI Q) (am_qx 72 X) (0, 0, [(0, .inr (.inl (some 0))), (1, .inl (a0))], [], M)
  have hX : ∀ E M, X E M → am_qx 72 X E M := fun E M q => ⟨⟨rfl, by decide⟩, q⟩
  refine am_Wrun 2 (ps := []) (pc' := 2) (lv' := [(0, .inr (.inl (some 0))), (1, .inl (a0))]) (st' := [.inl (1), .inl (a0)]) (M' := M) rfl trivial ?_
  refine am_WcallS (y := 34) (n := 2) (f := 5) (co := 0) (as := [.inl (a0), .inl (1)]) (st' := []) rfl rfl rfl rfl rfl rfl rfl rfl rfl (Nat.zero_le _) rfl (am_CC_le (Nat.le_of_ble_eq_true rfl) (tm_X5_refuseOutside h)) (fun r M1 q => ?_) (fun E M q => hX _ _ q)
  obtain ⟨rfl, h⟩ := q
  refine am_Wrun 2 (ps := []) (pc' := 9) (lv' := [(0, .inr (.inl (some 0))), (1, .inl (a0))]) (st' := [.inr (.inl (some 9))]) (M' := M1) rfl trivial ?_
  refine am_WcallV (y := 73) (n := 1) (a := 9) (f := 12) (as := []) (st' := []) rfl rfl rfl rfl rfl rfl rfl rfl rfl rfl (Nat.zero_le _) rfl (am_CC_le (Nat.le_of_ble_eq_true rfl) (tm_X1_leastMissed h)) (fun r M3 q => ?_) (fun _ _ q => q.elim)
  obtain ⟨x2, rfl, h⟩ := q
  refine am_Wrun 3 (ps := []) (pc' := 16) (lv' := [(2, .inl (x2)), (0, .inr (.inl (some 0))), (1, .inl (a0))]) (st' := [.inl ((-1000000)), .inl (x2)]) (M' := M3) rfl trivial ?_
  obtain ⟨b0, ht, hf⟩ := h
  refine am_Wbr (P := [am_rg x2, am_rg (-1000000)]) (c := x2 = (-1000000)) (t := 23) (f := 19) (st' := []) rfl rfl ⟨b0, (am_rgd rfl), trivial⟩ rfl (fun q => ?_) (fun q => ?_)
  · have h := ht q
    refine am_Wrun 1 (ps := []) (pc' := 24) (lv' := [(2, .inl (x2)), (0, .inr (.inl (some 0))), (1, .inl (a0))]) (st' := [.inl (x2)]) (M' := M3) rfl trivial ?_
    exact am_Wreti rfl rfl h
  · have h := hf q
    refine am_Wrun 1 (ps := []) (pc' := 20) (lv' := [(2, .inl (x2)), (0, .inr (.inl (some 0))), (1, .inl (a0))]) (st' := [.inl (a0)]) (M' := M3) rfl trivial ?_
    obtain ⟨b0, ht, hf⟩ := h
    refine am_Wbr (P := [am_rg a0]) (c := ¬ a0 = 0) (t := 25) (f := 23) (st' := []) rfl rfl ⟨b0, trivial⟩ rfl (fun q => ?_) (fun q => ?_)
    · have h := ht q
      refine am_Wrun 5 (ps := []) (pc' := 34) (lv' := [(2, .inl (x2)), (0, .inr (.inl (some 0))), (1, .inl (a0))]) (st' := [.inl (x2), .inr (.inl (some 1)), .inr (.inl (some 9))]) (M' := M3) rfl trivial ?_
      refine am_WcallV (y := 10) (n := 2) (a := 1) (f := 37) (as := [.inl (x2)]) (st' := [.inr (.inl (some 9))]) rfl rfl rfl rfl rfl rfl rfl rfl rfl rfl (Nat.zero_le _) rfl (am_CC_le (Nat.le_of_ble_eq_true rfl) (tm_X2_earlierKept h)) (fun r M5 q => ?_) (fun _ _ q => q.elim)
      obtain ⟨x4, rfl, h⟩ := q
      refine am_Wrun 3 (ps := []) (pc' := 42) (lv' := [(2, .inl (x2)), (0, .inr (.inl (some 0))), (1, .inl (a0))]) (st' := [.inl (x2), .inr (.inl (some 1)), .inl (x4), .inr (.inl (some 9))]) (M' := M5) rfl trivial ?_
      refine am_WcallV (y := 13) (n := 2) (a := 1) (f := 45) (as := [.inl (x2)]) (st' := [.inl (x4), .inr (.inl (some 9))]) rfl rfl rfl rfl rfl rfl rfl rfl rfl rfl (Nat.zero_le _) rfl (am_CC_le (Nat.le_of_ble_eq_true rfl) (tm_X2_laterKept h)) (fun r M7 q => ?_) (fun _ _ q => q.elim)
      obtain ⟨x6, rfl, h⟩ := q
      refine am_WcallV (y := 47) (n := 3) (a := 9) (f := 48) (as := [.inl (x4), .inl (x6)]) (st' := []) rfl rfl rfl rfl rfl rfl rfl rfl rfl rfl (Nat.zero_le _) rfl (am_CC_le (Nat.le_of_ble_eq_true rfl) (tm_X1_findWorst h)) (fun r M9 q => ?_) (fun _ _ q => q.elim)
      obtain ⟨x8, rfl, h⟩ := q
      refine am_Wrun 7 (ps := []) (pc' := 63) (lv' := [(2, .inl (x2)), (0, .inr (.inl (some 0))), (1, .inl (a0))]) (st' := [.inl (M9 9 2), .inl (M9 9 1)]) (M' := M9) rfl trivial ?_
      refine am_WcallS (y := 40) (n := 2) (f := 66) (co := 0) (as := [.inl (M9 9 1), .inl (M9 9 2)]) (st' := []) rfl rfl rfl rfl rfl rfl rfl rfl rfl (Nat.zero_le _) rfl (am_CC_le (Nat.le_of_ble_eq_true rfl) (tm_X5_roundedUp h)) (fun r M11 q => ?_) (fun _ _ q => q.elim)
      obtain ⟨x10, rfl, h⟩ := q
      exact am_Wreti rfl rfl h
    · have h := hf q
      refine am_Wrun 1 (ps := []) (pc' := 24) (lv' := [(2, .inl (x2)), (0, .inr (.inl (some 0))), (1, .inl (a0))]) (st' := [.inl (x2)]) (M' := M3) rfl trivial ?_
      exact am_Wreti rfl rfl h
abbrev dt_L_cheapest : am_D := (tk_L_cheapest, 9, 4, some .int, tb_hn 221)
def wp_L_cheapest (a1 : Int) (M : am_M) (Q : Int → am_M → Prop) : Prop := wp_X5_cheapest a1 M (fun x1 M2 => (am_rg x1) ∧ (Q 0 (am_up M2 80 0 x1))) (fun E M3 => (E = 0 ∧ Q 1 M3))
set_option maxRecDepth 20000 in
theorem tm_L_cheapest {a1 : Int} {M : am_M} {Q : Int → am_M → Prop} (h : wp_L_cheapest a1 M Q) : am_CC 8 221 [.inr (.inl (some 0)), .inl (a1), .inr (.inl (some 80))] M (am_QI Q) (fun _ _ => False) := by
  refine ⟨Nat.le_of_ble_eq_true rfl, ?_⟩
  show am_W (am_CC 7) dt_L_cheapest 7 1 none (am_QI Q) (am_qx 221 (fun _ _ => False)) (0, 0, [(0, .inr (.inl (some 0))), (1, .inl (a1)), (2, .inr (.inl (some 80)))], [], M)
  refine am_Wrun 4 (ps := []) (pc' := 4) (lv' := [(0, .inr (.inl (some 0))), (1, .inl (a1)), (2, .inr (.inl (some 80)))]) (st' := [.inl (a1), .inr (.inl (some 0)), .inl (0), .inr (.inl (some 80))]) (M' := M) rfl trivial ?_
  refine am_WcallV (y := 72) (n := 2) (a := 0) (f := 7) (as := [.inl (a1)]) (st' := [.inl (0), .inr (.inl (some 80))]) rfl rfl rfl rfl rfl rfl rfl rfl rfl rfl (Nat.zero_le _) rfl (am_CC_le (Nat.le_of_ble_eq_true rfl) (tm_X5_cheapest h)) (fun r M2 q => ?_) (fun E M3 q => ?_)
  · obtain ⟨x1, rfl, h⟩ := q
    obtain ⟨c0_0, h⟩ := h
    refine am_Wrun 4 (ps := [am_rg x1, 0 ≤ (0 : Int) ∧ (0 : Int) < 1]) (pc' := 16) (lv' := [(0, .inr (.inl (some 0))), (1, .inl (a1)), (2, .inr (.inl (some 80)))]) (st' := [.inl (0)]) (M' := (am_up M2 80 0 x1)) rfl ⟨c0_0, ⟨by decide, by decide⟩, trivial⟩ ?_
    exact am_Wreti rfl rfl h
  · rcases q with ⟨rfl, h⟩
    · show 0 + 1 ≤ 1 ∧ am_W (am_CC 7) dt_L_cheapest 7 1 none (am_QI Q) _ (0 + 1, 13, [(0, .inr (.inl (some 0))), (1, .inl (a1)), (2, .inr (.inl (some 80)))], [], M3)
      refine ⟨Nat.le_refl _, ?_⟩
      refine am_Wrun 1 (ps := []) (pc' := 14) (lv' := [(0, .inr (.inl (some 0))), (1, .inl (a1)), (2, .inr (.inl (some 80)))]) (st' := [.inl (1)]) (M' := M3) rfl trivial ?_
      exact am_Wreti rfl rfl h
abbrev dt_X6_missedLeast : am_D := (tk_X6_missedLeast, 6, 11, some .int, tb_hn 193)
def wj_X6_missedLeast_132 (Q : Int → am_M → Prop) (k11 : Int → Int → Int → Int → Int → am_M → Prop) (v1 : Int) (v7 : Int) (v8 : Int) (v9 : Int) (M : am_M) : Prop := (am_rg v8) ∧ (k11 v1 v7 v8 v9 (v7 + 1) M)
def wl_X6_missedLeast_42 (Q : Int → am_M → Prop) (k11 : Int → Int → Int → Int → Int → am_M → Prop) : Nat → Int → Int → Int → Int → Int → Int → Int → am_M → Prop
  | 0, _, _, _, _, _, _, _, _ => False
  | n + 1, v1, v2, v3, v5, v7, v8, v9, M => (am_rg v9) ∧ (am_rg (M 69 10)) ∧ ((M 69 10) ≤ v9 → wp_X6_below (M 69 9) (M 69 10) M (fun x3 M4 => (am_rg x3) ∧ ((am_rg v2) ∧ (v2 < 0 → wj_X6_missedLeast_132 Q k11 v1 v7 v8 x3 M4) ∧ (¬ v2 < 0 → (am_rg v8) ∧ ((am_rl (v8 * v5) ∧ am_rl (v3 * x3)) ∨ (v8 * v5) = (v3 * x3)) ∧ ((am_rg (am_lci (v8 * v5) (v3 * x3))) ∧ (0 ≤ (am_lci (v8 * v5) (v3 * x3)) → k11 v1 v2 v3 v5 (v7 + 1) M4) ∧ (¬ 0 ≤ (am_lci (v8 * v5) (v3 * x3)) → wj_X6_missedLeast_132 Q k11 v1 v7 v8 x3 M4)))))) ∧ (¬ (M 69 10) ≤ v9 → wp_X6_time v9 M (fun x5 M6 => wp_X6_value v9 M6 (fun x7 M8 => wp_X6_off (M 69 9) (M 69 10) x5 x7 M8 (fun x9 M10 => (am_rg x9) ∧ (am_rg v8) ∧ (x9 ≤ v8 → wl_X6_missedLeast_42 Q k11 n v1 v2 v3 v5 v7 v8 (v9 + 1) M10) ∧ (¬ x9 ≤ v8 → wl_X6_missedLeast_42 Q k11 n v1 v2 v3 v5 v7 x9 (v9 + 1) M10)))))
def wl_X6_missedLeast_11 (Q : Int → am_M → Prop) : Nat → Int → Int → Int → Int → Int → am_M → Prop
  | 0, _, _, _, _, _, _ => False
  | n + 1, v1, v2, v3, v5, v7, M => (am_rg v7) ∧ (am_rg (M 70 0)) ∧ ((M 70 0) ≤ v7 → (am_rg v2) ∧ (v2 < 0 → Q v2 M) ∧ (¬ v2 < 0 → (am_rg v1) ∧ (¬ v1 = 0 → (am_rl ((v3 + v5) - 1) ∧ am_rl v5 ∧ (0 : Int) < v5) ∧ (Q (Int.tdiv ((v3 + v5) - 1) v5) M)) ∧ (¬ (¬ v1 = 0) → Q v2 M))) ∧ (¬ (M 70 0) ≤ v7 → wp_X6_against v7 M (fun x1 M2 => (am_rg x1) ∧ (¬ x1 = 0 → wl_X6_missedLeast_11 Q n v1 v2 v3 v5 (v7 + 1) M2) ∧ (¬ (¬ x1 = 0) → ∃ e42, wl_X6_missedLeast_42 Q (wl_X6_missedLeast_11 Q n) e42 v1 v2 v3 v5 v7 0 ((M2 69 9) + 1) M2)))
def wp_X6_missedLeast (a0 : Int) (M : am_M) (Q : Int → am_M → Prop) : Prop := ∃ e11, wl_X6_missedLeast_11 Q e11 a0 (-1000000) 0 1 0 M
set_option maxRecDepth 20000 in
theorem tj_X6_missedLeast_132 {Q : Int → am_M → Prop} {QX : am_X} {k11 : Int → Int → Int → Int → Int → am_M → Prop} (hk11 : ∀ (v1 : Int) (v2 : Int) (v3 : Int) (v5 : Int) (v7 : Int) (M : am_M), k11 v1 v2 v3 v5 v7 M → am_W (am_CC 6) dt_X6_missedLeast 6 0 none (am_QI Q) QX (0, 11, [(0, .inr (.inl (some 69))), (1, .inl (v1)), (2, .inl (v2)), (3, .inr (.inr (.inl (v3)))), (5, .inr (.inr (.inl (v5)))), (7, .inl (v7))], [], M)) (v1 : Int) (v7 : Int) (v8 : Int) (v9 : Int) (M : am_M) (h : wj_X6_missedLeast_132 Q k11 v1 v7 v8 v9 M) : am_W (am_CC 6) dt_X6_missedLeast 6 0 none (am_QI Q) QX (0, 132, [(0, .inr (.inl (some 69))), (1, .inl (v1)), (7, .inl (v7)), (8, .inl (v8)), (9, .inr (.inr (.inl (v9))))], [], M) := by
  obtain ⟨c0_0, h⟩ := h
  refine am_Wrun 9 (ps := [am_rg v8]) (pc' := 11) (lv' := [(7, .inl (v7 + 1)), (5, .inr (.inr (.inl (v9)))), (3, .inr (.inr (.inl (v8)))), (2, .inl (v7)), (0, .inr (.inl (some 69))), (1, .inl (v1)), (8, .inl (v8)), (9, .inr (.inr (.inl (v9))))]) (st' := []) (M' := M) rfl ⟨c0_0, trivial⟩ ?_
  refine am_W_sub [4, 5, 3, 2, 1, 0] rfl ?_
  exact hk11 v1 v7 v8 v9 (v7 + 1) M h
set_option maxRecDepth 20000 in
theorem tw_X6_missedLeast_42 {Q : Int → am_M → Prop} {QX : am_X} {k11 : Int → Int → Int → Int → Int → am_M → Prop} (hk11 : ∀ (v1 : Int) (v2 : Int) (v3 : Int) (v5 : Int) (v7 : Int) (M : am_M), k11 v1 v2 v3 v5 v7 M → am_W (am_CC 6) dt_X6_missedLeast 6 0 none (am_QI Q) QX (0, 11, [(0, .inr (.inl (some 69))), (1, .inl (v1)), (2, .inl (v2)), (3, .inr (.inr (.inl (v3)))), (5, .inr (.inr (.inl (v5)))), (7, .inl (v7))], [], M)) : ∀ (n : Nat) (v1 : Int) (v2 : Int) (v3 : Int) (v5 : Int) (v7 : Int) (v8 : Int) (v9 : Int) (M : am_M), wl_X6_missedLeast_42 Q k11 n v1 v2 v3 v5 v7 v8 v9 M → am_W (am_CC 6) dt_X6_missedLeast 6 0 none (am_QI Q) QX (0, 42, [(0, .inr (.inl (some 69))), (1, .inl (v1)), (2, .inl (v2)), (3, .inr (.inr (.inl (v3)))), (5, .inr (.inr (.inl (v5)))), (7, .inl (v7)), (8, .inl (v8)), (9, .inl (v9))], [], M)
  | 0, _, _, _, _, _, _, _, _, h => h.elim
  | n + 1, v1, v2, v3, v5, v7, v8, v9, M, h => by
    refine am_Wrun 3 (ps := []) (pc' := 48) (lv' := [(0, .inr (.inl (some 69))), (1, .inl (v1)), (2, .inl (v2)), (3, .inr (.inr (.inl (v3)))), (5, .inr (.inr (.inl (v5)))), (7, .inl (v7)), (8, .inl (v8)), (9, .inl (v9))]) (st' := [.inl (M 69 10), .inl (v9)]) (M' := M) rfl trivial ?_
    obtain ⟨b0, b1, ht, hf⟩ := h
    refine am_Wbr (P := [am_rg v9, am_rg (M 69 10)]) (c := (M 69 10) ≤ v9) (t := 99) (f := 51) (st' := []) rfl rfl ⟨b0, b1, trivial⟩ rfl (fun q => ?_) (fun q => ?_)
    · have h := ht q
      refine am_Wrun 5 (ps := []) (pc' := 108) (lv' := [(0, .inr (.inl (some 69))), (1, .inl (v1)), (2, .inl (v2)), (3, .inr (.inr (.inl (v3)))), (5, .inr (.inr (.inl (v5)))), (7, .inl (v7)), (8, .inl (v8)), (9, .inl (v9))]) (st' := [.inl (M 69 10), .inl (M 69 9), .inr (.inl (some 69))]) (M' := M) rfl trivial ?_
      refine am_WcallV (y := 131) (n := 3) (a := 69) (f := 111) (as := [.inl (M 69 9), .inl (M 69 10)]) (st' := []) rfl rfl rfl rfl rfl rfl rfl rfl rfl rfl (Nat.zero_le _) rfl (am_CC_le (Nat.le_of_ble_eq_true rfl) (tm_X6_below h)) (fun r M4 q => ?_) (fun _ _ q => q.elim)
      obtain ⟨x3, rfl, h⟩ := q
      obtain ⟨c0_0, h⟩ := h
      refine am_Wrun 3 (ps := [am_rg x3]) (pc' := 115) (lv' := [(9, .inr (.inr (.inl (x3)))), (0, .inr (.inl (some 69))), (1, .inl (v1)), (2, .inl (v2)), (3, .inr (.inr (.inl (v3)))), (5, .inr (.inr (.inl (v5)))), (7, .inl (v7)), (8, .inl (v8))]) (st' := [.inl (v2)]) (M' := M4) rfl ⟨c0_0, trivial⟩ ?_
      obtain ⟨b0, ht, hf⟩ := h
      refine am_Wbr (P := [am_rg v2]) (c := v2 < 0) (t := 132) (f := 118) (st' := []) rfl rfl ⟨b0, trivial⟩ rfl (fun q => ?_) (fun q => ?_)
      · have h := ht q
        refine am_W_sub [1, 2, 6, 7, 0] rfl ?_
        exact tj_X6_missedLeast_132 hk11 v1 v7 v8 x3 M4 h
      · have h := hf q
        obtain ⟨c0_0, c1_0, h⟩ := h
        refine am_Wrun 8 (ps := [am_rg v8, (am_rl (v8 * v5) ∧ am_rl (v3 * x3)) ∨ (v8 * v5) = (v3 * x3)]) (pc' := 129) (lv' := [(9, .inr (.inr (.inl (x3)))), (0, .inr (.inl (some 69))), (1, .inl (v1)), (2, .inl (v2)), (3, .inr (.inr (.inl (v3)))), (5, .inr (.inr (.inl (v5)))), (7, .inl (v7)), (8, .inl (v8))]) (st' := [.inl (am_lci (v8 * v5) (v3 * x3))]) (M' := M4) rfl ⟨c0_0, c1_0, trivial⟩ ?_
        obtain ⟨b0, ht, hf⟩ := h
        refine am_Wbr (P := [am_rg (am_lci (v8 * v5) (v3 * x3))]) (c := 0 ≤ (am_lci (v8 * v5) (v3 * x3))) (t := 143) (f := 132) (st' := []) rfl rfl ⟨b0, trivial⟩ rfl (fun q => ?_) (fun q => ?_)
        · have h := ht q
          refine am_Wrun 2 (ps := []) (pc' := 11) (lv' := [(7, .inl (v7 + 1)), (9, .inr (.inr (.inl (x3)))), (0, .inr (.inl (some 69))), (1, .inl (v1)), (2, .inl (v2)), (3, .inr (.inr (.inl (v3)))), (5, .inr (.inr (.inl (v5)))), (8, .inl (v8))]) (st' := []) (M' := M4) rfl trivial ?_
          refine am_W_sub [2, 3, 4, 5, 6, 0] rfl ?_
          exact hk11 v1 v2 v3 v5 (v7 + 1) M4 h
        · have h := hf q
          refine am_W_sub [1, 2, 6, 7, 0] rfl ?_
          exact tj_X6_missedLeast_132 hk11 v1 v7 v8 x3 M4 h
    · have h := hf q
      refine am_Wrun 7 (ps := []) (pc' := 63) (lv' := [(0, .inr (.inl (some 69))), (1, .inl (v1)), (2, .inl (v2)), (3, .inr (.inr (.inl (v3)))), (5, .inr (.inr (.inl (v5)))), (7, .inl (v7)), (8, .inl (v8)), (9, .inl (v9))]) (st' := [.inl (v9), .inr (.inl (some 69)), .inl (M 69 10), .inl (M 69 9), .inr (.inl (some 69))]) (M' := M) rfl trivial ?_
      refine am_WcallV (y := 115) (n := 2) (a := 69) (f := 66) (as := [.inl (v9)]) (st' := [.inl (M 69 10), .inl (M 69 9), .inr (.inl (some 69))]) rfl rfl rfl rfl rfl rfl rfl rfl rfl rfl (Nat.zero_le _) rfl (am_CC_le (Nat.le_of_ble_eq_true rfl) (tm_X6_time h)) (fun r M6 q => ?_) (fun _ _ q => q.elim)
      obtain ⟨x5, rfl, h⟩ := q
      refine am_Wrun 2 (ps := []) (pc' := 69) (lv' := [(0, .inr (.inl (some 69))), (1, .inl (v1)), (2, .inl (v2)), (3, .inr (.inr (.inl (v3)))), (5, .inr (.inr (.inl (v5)))), (7, .inl (v7)), (8, .inl (v8)), (9, .inl (v9))]) (st' := [.inl (v9), .inr (.inl (some 69)), .inl (x5), .inl (M 69 10), .inl (M 69 9), .inr (.inl (some 69))]) (M' := M6) rfl trivial ?_
      refine am_WcallV (y := 120) (n := 2) (a := 69) (f := 72) (as := [.inl (v9)]) (st' := [.inl (x5), .inl (M 69 10), .inl (M 69 9), .inr (.inl (some 69))]) rfl rfl rfl rfl rfl rfl rfl rfl rfl rfl (Nat.zero_le _) rfl (am_CC_le (Nat.le_of_ble_eq_true rfl) (tm_X6_value h)) (fun r M8 q => ?_) (fun _ _ q => q.elim)
      obtain ⟨x7, rfl, h⟩ := q
      refine am_WcallV (y := 130) (n := 5) (a := 69) (f := 75) (as := [.inl (M 69 9), .inl (M 69 10), .inl (x5), .inl (x7)]) (st' := []) rfl rfl rfl rfl rfl rfl rfl rfl rfl rfl (Nat.zero_le _) rfl (am_CC_le (Nat.le_of_ble_eq_true rfl) (tm_X6_off h)) (fun r M10 q => ?_) (fun _ _ q => q.elim)
      obtain ⟨x9, rfl, h⟩ := q
      refine am_Wrun 3 (ps := []) (pc' := 81) (lv' := [(10, .inl (x9)), (0, .inr (.inl (some 69))), (1, .inl (v1)), (2, .inl (v2)), (3, .inr (.inr (.inl (v3)))), (5, .inr (.inr (.inl (v5)))), (7, .inl (v7)), (8, .inl (v8)), (9, .inl (v9))]) (st' := [.inl (v8), .inl (x9)]) (M' := M10) rfl trivial ?_
      obtain ⟨b0, b1, ht, hf⟩ := h
      refine am_Wbr (P := [am_rg x9, am_rg v8]) (c := x9 ≤ v8) (t := 89) (f := 84) (st' := []) rfl rfl ⟨b0, b1, trivial⟩ rfl (fun q => ?_) (fun q => ?_)
      · have h := ht q
        refine am_Wrun 4 (ps := []) (pc' := 42) (lv' := [(9, .inl (v9 + 1)), (8, .inl (v8)), (10, .inl (x9)), (0, .inr (.inl (some 69))), (1, .inl (v1)), (2, .inl (v2)), (3, .inr (.inr (.inl (v3)))), (5, .inr (.inr (.inl (v5)))), (7, .inl (v7))]) (st' := []) (M' := M10) rfl trivial ?_
        refine am_W_sub [3, 4, 5, 6, 7, 8, 1, 0] rfl ?_
        exact tw_X6_missedLeast_42 hk11 n v1 v2 v3 v5 v7 v8 (v9 + 1) M10 h
      · have h := hf q
        refine am_Wrun 5 (ps := []) (pc' := 42) (lv' := [(9, .inl (v9 + 1)), (8, .inl (x9)), (10, .inl (x9)), (0, .inr (.inl (some 69))), (1, .inl (v1)), (2, .inl (v2)), (3, .inr (.inr (.inl (v3)))), (5, .inr (.inr (.inl (v5)))), (7, .inl (v7))]) (st' := []) (M' := M10) rfl trivial ?_
        refine am_W_sub [3, 4, 5, 6, 7, 8, 1, 0] rfl ?_
        exact tw_X6_missedLeast_42 hk11 n v1 v2 v3 v5 v7 x9 (v9 + 1) M10 h
set_option maxRecDepth 20000 in
theorem tw_X6_missedLeast_11 {Q : Int → am_M → Prop} {QX : am_X} : ∀ (n : Nat) (v1 : Int) (v2 : Int) (v3 : Int) (v5 : Int) (v7 : Int) (M : am_M), wl_X6_missedLeast_11 Q n v1 v2 v3 v5 v7 M → am_W (am_CC 6) dt_X6_missedLeast 6 0 none (am_QI Q) QX (0, 11, [(0, .inr (.inl (some 69))), (1, .inl (v1)), (2, .inl (v2)), (3, .inr (.inr (.inl (v3)))), (5, .inr (.inr (.inl (v5)))), (7, .inl (v7))], [], M)
  | 0, _, _, _, _, _, _, h => h.elim
  | n + 1, v1, v2, v3, v5, v7, M, h => by
    refine am_Wrun 5 (ps := [0 ≤ (0 : Int) ∧ (0 : Int) < 203]) (pc' := 19) (lv' := [(0, .inr (.inl (some 69))), (1, .inl (v1)), (2, .inl (v2)), (3, .inr (.inr (.inl (v3)))), (5, .inr (.inr (.inl (v5)))), (7, .inl (v7))]) (st' := [.inl (M 70 0), .inl (v7)]) (M' := M) rfl ⟨⟨by decide, by decide⟩, trivial⟩ ?_
    obtain ⟨b0, b1, ht, hf⟩ := h
    refine am_Wbr (P := [am_rg v7, am_rg (M 70 0)]) (c := (M 70 0) ≤ v7) (t := 149) (f := 22) (st' := []) rfl rfl ⟨b0, b1, trivial⟩ rfl (fun q => ?_) (fun q => ?_)
    · have h := ht q
      refine am_Wrun 1 (ps := []) (pc' := 150) (lv' := [(0, .inr (.inl (some 69))), (1, .inl (v1)), (2, .inl (v2)), (3, .inr (.inr (.inl (v3)))), (5, .inr (.inr (.inl (v5)))), (7, .inl (v7))]) (st' := [.inl (v2)]) (M' := M) rfl trivial ?_
      obtain ⟨b0, ht, hf⟩ := h
      refine am_Wbr (P := [am_rg v2]) (c := v2 < 0) (t := 157) (f := 153) (st' := []) rfl rfl ⟨b0, trivial⟩ rfl (fun q => ?_) (fun q => ?_)
      · have h := ht q
        refine am_Wrun 2 (ps := []) (pc' := 171) (lv' := [(0, .inr (.inl (some 69))), (1, .inl (v1)), (2, .inl (v2)), (3, .inr (.inr (.inl (v3)))), (5, .inr (.inr (.inl (v5)))), (7, .inl (v7))]) (st' := [.inl (v2)]) (M' := M) rfl trivial ?_
        exact am_Wreti rfl rfl h
      · have h := hf q
        refine am_Wrun 1 (ps := []) (pc' := 154) (lv' := [(0, .inr (.inl (some 69))), (1, .inl (v1)), (2, .inl (v2)), (3, .inr (.inr (.inl (v3)))), (5, .inr (.inr (.inl (v5)))), (7, .inl (v7))]) (st' := [.inl (v1)]) (M' := M) rfl trivial ?_
        obtain ⟨b0, ht, hf⟩ := h
        refine am_Wbr (P := [am_rg v1]) (c := ¬ v1 = 0) (t := 161) (f := 157) (st' := []) rfl rfl ⟨b0, trivial⟩ rfl (fun q => ?_) (fun q => ?_)
        · have h := ht q
          obtain ⟨c0_0, h⟩ := h
          refine am_Wrun 8 (ps := [am_rl ((v3 + v5) - 1) ∧ am_rl v5 ∧ (0 : Int) < v5]) (pc' := 171) (lv' := [(0, .inr (.inl (some 69))), (1, .inl (v1)), (2, .inl (v2)), (3, .inr (.inr (.inl (v3)))), (5, .inr (.inr (.inl (v5)))), (7, .inl (v7))]) (st' := [.inl (Int.tdiv ((v3 + v5) - 1) v5)]) (M' := M) rfl ⟨c0_0, trivial⟩ ?_
          exact am_Wreti rfl rfl h
        · have h := hf q
          refine am_Wrun 2 (ps := []) (pc' := 171) (lv' := [(0, .inr (.inl (some 69))), (1, .inl (v1)), (2, .inl (v2)), (3, .inr (.inr (.inl (v3)))), (5, .inr (.inr (.inl (v5)))), (7, .inl (v7))]) (st' := [.inl (v2)]) (M' := M) rfl trivial ?_
          exact am_Wreti rfl rfl h
    · have h := hf q
      refine am_Wrun 2 (ps := []) (pc' := 25) (lv' := [(0, .inr (.inl (some 69))), (1, .inl (v1)), (2, .inl (v2)), (3, .inr (.inr (.inl (v3)))), (5, .inr (.inr (.inl (v5)))), (7, .inl (v7))]) (st' := [.inl (v7), .inr (.inl (some 69))]) (M' := M) rfl trivial ?_
      refine am_WcallV (y := 122) (n := 2) (a := 69) (f := 28) (as := [.inl (v7)]) (st' := []) rfl rfl rfl rfl rfl rfl rfl rfl rfl rfl (Nat.zero_le _) rfl (am_CC_le (Nat.le_of_ble_eq_true rfl) (tm_X6_against h)) (fun r M2 q => ?_) (fun _ _ q => q.elim)
      obtain ⟨x1, rfl, h⟩ := q
      obtain ⟨b0, ht, hf⟩ := h
      refine am_Wbr (P := [am_rg x1]) (c := ¬ x1 = 0) (t := 143) (f := 31) (st' := []) rfl rfl ⟨b0, trivial⟩ rfl (fun q => ?_) (fun q => ?_)
      · have h := ht q
        refine am_Wrun 2 (ps := []) (pc' := 11) (lv' := [(7, .inl (v7 + 1)), (0, .inr (.inl (some 69))), (1, .inl (v1)), (2, .inl (v2)), (3, .inr (.inr (.inl (v3)))), (5, .inr (.inr (.inl (v5))))]) (st' := []) (M' := M2) rfl trivial ?_
        refine am_W_sub [1, 2, 3, 4, 5, 0] rfl ?_
        exact tw_X6_missedLeast_11 n v1 v2 v3 v5 (v7 + 1) M2 h
      · have h := hf q
        refine am_Wrun 7 (ps := []) (pc' := 42) (lv' := [(9, .inl ((M2 69 9) + 1)), (8, .inl (0)), (0, .inr (.inl (some 69))), (1, .inl (v1)), (2, .inl (v2)), (3, .inr (.inr (.inl (v3)))), (5, .inr (.inr (.inl (v5)))), (7, .inl (v7))]) (st' := []) (M' := M2) rfl trivial ?_
        refine am_W_sub [2, 3, 4, 5, 6, 7, 1, 0] rfl ?_
        obtain ⟨n42, h⟩ := h
        exact tw_X6_missedLeast_42 (tw_X6_missedLeast_11 n) n42 v1 v2 v3 v5 v7 0 ((M2 69 9) + 1) M2 h
set_option maxRecDepth 20000 in
theorem tm_X6_missedLeast {a0 : Int} {M : am_M} {Q : Int → am_M → Prop} (h : wp_X6_missedLeast a0 M Q) : am_CC 7 193 [.inr (.inl (some 69)), .inl (a0)] M (am_QI Q) (fun _ _ => False) := by
  refine ⟨Nat.le_of_ble_eq_true rfl, ?_⟩
  show am_W (am_CC 6) dt_X6_missedLeast 6 0 none (am_QI Q) (am_qx 193 (fun _ _ => False)) (0, 0, [(0, .inr (.inl (some 69))), (1, .inl (a0))], [], M)
  refine am_Wrun 8 (ps := []) (pc' := 11) (lv' := [(7, .inl (0)), (5, .inr (.inr (.inl (1)))), (3, .inr (.inr (.inl (0)))), (2, .inl ((-1000000))), (0, .inr (.inl (some 69))), (1, .inl (a0))]) (st' := []) (M' := M) rfl trivial ?_
  refine am_W_sub [4, 5, 3, 2, 1, 0] rfl ?_
  obtain ⟨n11, h⟩ := h
  exact tw_X6_missedLeast_11 n11 a0 (-1000000) 0 1 0 M h
abbrev dt_X6_cheapest : am_D := (tk_X6_cheapest, 6, 2, some .int, tb_hn 192)
def wp_X6_cheapest (a0 : Int) (M : am_M) (Q : Int → am_M → Prop) : Prop := wp_X6_in a0 0 1 (am_up M 69 5 0) (fun x1 M2 => (am_rg x1) ∧ (x1 = 0 → wp_X6_fails 1 M2 (fun x3 M4 => Q x3 M4)) ∧ (¬ x1 = 0 → wp_X6_missedLeast a0 M2 (fun x5 M6 => Q x5 M6)))
set_option maxRecDepth 20000 in
theorem tm_X6_cheapest {a0 : Int} {M : am_M} {Q : Int → am_M → Prop} (h : wp_X6_cheapest a0 M Q) : am_CC 8 192 [.inr (.inl (some 69)), .inl (a0)] M (am_QI Q) (fun _ _ => False) := by
  refine ⟨Nat.le_of_ble_eq_true rfl, ?_⟩
  show am_W (am_CC 7) dt_X6_cheapest 7 0 none (am_QI Q) (am_qx 192 (fun _ _ => False)) (0, 0, [(0, .inr (.inl (some 69))), (1, .inl (a0))], [], M)
  refine am_Wrun 6 (ps := []) (pc' := 8) (lv' := [(0, .inr (.inl (some 69))), (1, .inl (a0))]) (st' := [.inl (1), .inl (0), .inl (a0)]) (M' := (am_up M 69 5 0)) rfl trivial ?_
  refine am_WcallS (y := 112) (n := 3) (f := 11) (co := 0) (as := [.inl (a0), .inl (0), .inl (1)]) (st' := []) rfl rfl rfl rfl rfl rfl rfl rfl rfl (Nat.zero_le _) rfl (am_CC_le (Nat.le_of_ble_eq_true rfl) (tm_X6_in h)) (fun r M2 q => ?_) (fun _ _ q => q.elim)
  obtain ⟨x1, rfl, h⟩ := q
  obtain ⟨b0, ht, hf⟩ := h
  refine am_Wbr (P := [am_rg x1]) (c := x1 = 0) (t := 22) (f := 14) (st' := []) rfl rfl ⟨b0, trivial⟩ rfl (fun q => ?_) (fun q => ?_)
  · have h := ht q
    refine am_Wrun 2 (ps := []) (pc' := 24) (lv' := [(0, .inr (.inl (some 69))), (1, .inl (a0))]) (st' := [.inl (1), .inr (.inl (some 69))]) (M' := M2) rfl trivial ?_
    refine am_WcallV (y := 113) (n := 2) (a := 69) (f := 27) (as := [.inl (1)]) (st' := []) rfl rfl rfl rfl rfl rfl rfl rfl rfl rfl (Nat.zero_le _) rfl (am_CC_le (Nat.le_of_ble_eq_true rfl) (tm_X6_fails h)) (fun r M4 q => ?_) (fun _ _ q => q.elim)
    obtain ⟨x3, rfl, h⟩ := q
    exact am_Wreti rfl rfl h
  · have h := hf q
    refine am_Wrun 2 (ps := []) (pc' := 16) (lv' := [(0, .inr (.inl (some 69))), (1, .inl (a0))]) (st' := [.inl (a0), .inr (.inl (some 69))]) (M' := M2) rfl trivial ?_
    refine am_WcallV (y := 193) (n := 2) (a := 69) (f := 19) (as := [.inl (a0)]) (st' := []) rfl rfl rfl rfl rfl rfl rfl rfl rfl rfl (Nat.zero_le _) rfl (am_CC_le (Nat.le_of_ble_eq_true rfl) (tm_X6_missedLeast h)) (fun r M6 q => ?_) (fun _ _ q => q.elim)
    obtain ⟨x5, rfl, h⟩ := q
    refine am_Wrun 1 (ps := []) (pc' := 27) (lv' := [(0, .inr (.inl (some 69))), (1, .inl (a0))]) (st' := [.inl (x5)]) (M' := M6) rfl trivial ?_
    exact am_Wreti rfl rfl h
abbrev dt_X5_droppedShare : am_D := (tk_X5_droppedShare, 5, 1, some .double, tb_hn 31)
def wp_X5_droppedShare (M : am_M) (Q : UInt64 → am_M → Prop) : Prop := (am_rg (M 1 7)) ∧ (¬ (M 1 7) = 0 → wp_X2_keptPoints M (fun x1 M2 => (vf_n64 (FP.ddiv (FP.i2d (Int32.ofInt ((M 1 7) - x1))) (FP.i2d (Int32.ofInt (M2 1 7))))) ∧ (Q (FP.ddiv (FP.i2d (Int32.ofInt ((M 1 7) - x1))) (FP.i2d (Int32.ofInt (M2 1 7)))) M2))) ∧ (¬ (¬ (M 1 7) = 0) → Q FP.dconst0 M)
set_option maxRecDepth 20000 in
theorem tm_X5_droppedShare {M : am_M} {Q : UInt64 → am_M → Prop} (h : wp_X5_droppedShare M Q) : am_CC 2 31 [.inr (.inl (some 0))] M (am_QD Q) (fun _ _ => False) := by
  refine ⟨Nat.le_of_ble_eq_true rfl, ?_⟩
  show am_W (am_CC 1) dt_X5_droppedShare 1 0 none (am_QD Q) (am_qx 31 (fun _ _ => False)) (0, 0, [(0, .inr (.inl (some 0)))], [], M)
  refine am_Wrun 3 (ps := []) (pc' := 7) (lv' := [(0, .inr (.inl (some 0)))]) (st' := [.inl (M 1 7)]) (M' := M) rfl trivial ?_
  obtain ⟨b0, ht, hf⟩ := h
  refine am_Wbr (P := [am_rg (M 1 7)]) (c := ¬ (M 1 7) = 0) (t := 12) (f := 10) (st' := []) rfl rfl ⟨b0, trivial⟩ rfl (fun q => ?_) (fun q => ?_)
  · have h := ht q
    refine am_Wrun 5 (ps := []) (pc' := 23) (lv' := [(0, .inr (.inl (some 0)))]) (st' := [.inr (.inl (some 1)), .inl (M 1 7)]) (M' := M) rfl trivial ?_
    refine am_WcallV (y := 5) (n := 1) (a := 1) (f := 26) (as := []) (st' := [.inl (M 1 7)]) rfl rfl rfl rfl rfl rfl rfl rfl rfl rfl (Nat.zero_le _) rfl (am_CC_le (Nat.le_of_ble_eq_true rfl) (tm_X2_keptPoints h)) (fun r M2 q => ?_) (fun _ _ q => q.elim)
    obtain ⟨x1, rfl, h⟩ := q
    obtain ⟨c0_0, h⟩ := h
    refine am_Wrun 7 (ps := [vf_n64 (FP.ddiv (FP.i2d (Int32.ofInt ((M 1 7) - x1))) (FP.i2d (Int32.ofInt (M2 1 7))))]) (pc' := 37) (lv' := [(0, .inr (.inl (some 0)))]) (st' := [.inr (.inr (.inr (FP.ddiv (FP.i2d (Int32.ofInt ((M 1 7) - x1))) (FP.i2d (Int32.ofInt (M2 1 7))))))]) (M' := M2) rfl ⟨c0_0, trivial⟩ ?_
    exact am_Wretd rfl rfl h
  · have h := hf q
    refine am_Wrun 1 (ps := []) (pc' := 11) (lv' := [(0, .inr (.inl (some 0)))]) (st' := [.inr (.inr (.inr (FP.dconst0)))]) (M' := M) rfl trivial ?_
    exact am_Wretd rfl rfl h
abbrev dt_X6_share : am_D := (tk_X6_share, 6, 1, some .double, tb_hn 195)
def wp_X6_share (M : am_M) (Q : UInt64 → am_M → Prop) : Prop := (am_rg (M 70 0)) ∧ (¬ (M 70 0) = 0 → wp_X6_keptMany M (fun x1 M2 => (vf_n64 (FP.ddiv (FP.i2d (Int32.ofInt ((M 70 0) - x1))) (FP.i2d (Int32.ofInt (M2 70 0))))) ∧ (Q (FP.ddiv (FP.i2d (Int32.ofInt ((M 70 0) - x1))) (FP.i2d (Int32.ofInt (M2 70 0)))) M2))) ∧ (¬ (¬ (M 70 0) = 0) → Q FP.dconst0 M)
set_option maxRecDepth 20000 in
theorem tm_X6_share {M : am_M} {Q : UInt64 → am_M → Prop} (h : wp_X6_share M Q) : am_CC 2 195 [.inr (.inl (some 69))] M (am_QD Q) (fun _ _ => False) := by
  refine ⟨Nat.le_of_ble_eq_true rfl, ?_⟩
  show am_W (am_CC 1) dt_X6_share 1 0 none (am_QD Q) (am_qx 195 (fun _ _ => False)) (0, 0, [(0, .inr (.inl (some 69)))], [], M)
  refine am_Wrun 4 (ps := [0 ≤ (0 : Int) ∧ (0 : Int) < 203]) (pc' := 6) (lv' := [(0, .inr (.inl (some 69)))]) (st' := [.inl (M 70 0)]) (M' := M) rfl ⟨⟨by decide, by decide⟩, trivial⟩ ?_
  obtain ⟨b0, ht, hf⟩ := h
  refine am_Wbr (P := [am_rg (M 70 0)]) (c := ¬ (M 70 0) = 0) (t := 13) (f := 9) (st' := []) rfl rfl ⟨b0, trivial⟩ rfl (fun q => ?_) (fun q => ?_)
  · have h := ht q
    refine am_Wrun 5 (ps := [0 ≤ (0 : Int) ∧ (0 : Int) < 203]) (pc' := 20) (lv' := [(0, .inr (.inl (some 69)))]) (st' := [.inr (.inl (some 69)), .inl (M 70 0)]) (M' := M) rfl ⟨⟨by decide, by decide⟩, trivial⟩ ?_
    refine am_WcallV (y := 135) (n := 1) (a := 69) (f := 23) (as := []) (st' := [.inl (M 70 0)]) rfl rfl rfl rfl rfl rfl rfl rfl rfl rfl (Nat.zero_le _) rfl (am_CC_le (Nat.le_of_ble_eq_true rfl) (tm_X6_keptMany h)) (fun r M2 q => ?_) (fun _ _ q => q.elim)
    obtain ⟨x1, rfl, h⟩ := q
    obtain ⟨c1_0, h⟩ := h
    refine am_Wrun 8 (ps := [0 ≤ (0 : Int) ∧ (0 : Int) < 203, vf_n64 (FP.ddiv (FP.i2d (Int32.ofInt ((M 70 0) - x1))) (FP.i2d (Int32.ofInt (M2 70 0))))]) (pc' := 33) (lv' := [(0, .inr (.inl (some 69)))]) (st' := [.inr (.inr (.inr (FP.ddiv (FP.i2d (Int32.ofInt ((M 70 0) - x1))) (FP.i2d (Int32.ofInt (M2 70 0))))))]) (M' := M2) rfl ⟨⟨by decide, by decide⟩, c1_0, trivial⟩ ?_
    exact am_Wretd rfl rfl h
  · have h := hf q
    refine am_Wrun 2 (ps := []) (pc' := 33) (lv' := [(0, .inr (.inl (some 69)))]) (st' := [.inr (.inr (.inr (FP.dconst0)))]) (M' := M) rfl trivial ?_
    exact am_Wretd rfl rfl h
abbrev dt_X6_droppedShare : am_D := (tk_X6_droppedShare, 6, 1, some .double, tb_hn 194)
def wp_X6_droppedShare (M : am_M) (Q : UInt64 → am_M → Prop) : Prop := wp_X6_share (am_up M 69 5 0) (fun x1 M2 => Q x1 M2)
set_option maxRecDepth 20000 in
theorem tm_X6_droppedShare {M : am_M} {Q : UInt64 → am_M → Prop} (h : wp_X6_droppedShare M Q) : am_CC 3 194 [.inr (.inl (some 69))] M (am_QD Q) (fun _ _ => False) := by
  refine ⟨Nat.le_of_ble_eq_true rfl, ?_⟩
  show am_W (am_CC 2) dt_X6_droppedShare 2 0 none (am_QD Q) (am_qx 194 (fun _ _ => False)) (0, 0, [(0, .inr (.inl (some 69)))], [], M)
  refine am_Wrun 4 (ps := []) (pc' := 6) (lv' := [(0, .inr (.inl (some 69)))]) (st' := [.inr (.inl (some 69))]) (M' := (am_up M 69 5 0)) rfl trivial ?_
  refine am_WcallV (y := 195) (n := 1) (a := 69) (f := 9) (as := []) (st' := []) rfl rfl rfl rfl rfl rfl rfl rfl rfl rfl (Nat.zero_le _) rfl (am_CC_le (Nat.le_of_ble_eq_true rfl) (tm_X6_share h)) (fun r M2 q => ?_) (fun _ _ q => q.elim)
  obtain ⟨x1, rfl, h⟩ := q
  exact am_Wretd rfl rfl h
abbrev dt_X5_hashPoints : am_D := (tk_X5_hashPoints, 5, 7, some .long, tb_hn 42)
def wl_X5_hashPoints_20 (Q : Int → am_M → Prop) (X : am_X) (k5 : Int → Int → am_M → Prop) : Nat → Int → Int → Int → am_M → Prop
  | 0, _, _, _, _ => False
  | n + 1, v3, v5, v6, M => (am_rg v6) ∧ (7 < v6 → wp_X5_error v5 0 M (fun x1 M2 => (am_rg x1) ∧ (wp_X5_error v5 1 M2 (fun x3 M4 => (am_rg x3) ∧ (k5 ((31 * ((31 * v3) + x1)) + x3) (v5 + 1) M4)) X)) X) ∧ (¬ 7 < v6 → wp_X5_point v5 v6 M (fun x5 M6 => (am_rg x5) ∧ (wl_X5_hashPoints_20 Q X k5 n ((31 * v3) + x5) v5 (v6 + 1) M6)) X)
def wl_X5_hashPoints_5 (Q : Int → am_M → Prop) (X : am_X) : Nat → Int → Int → am_M → Prop
  | 0, _, _, _ => False
  | n + 1, v3, v5, M => (am_rg v5) ∧ (am_rg (M 1 7)) ∧ ((M 1 7) ≤ v5 → Q v3 M) ∧ (¬ (M 1 7) ≤ v5 → ∃ e20, wl_X5_hashPoints_20 Q X (wl_X5_hashPoints_5 Q X n) e20 v3 v5 0 M)
def wp_X5_hashPoints (a0 : Int) (M : am_M) (Q : Int → am_M → Prop) (X : am_X) : Prop := ∃ e5, wl_X5_hashPoints_5 Q X e5 a0 0 M
set_option maxRecDepth 20000 in
theorem tw_X5_hashPoints_20 {Q : Int → am_M → Prop} {X : am_X} {QX : am_X} {k5 : Int → Int → am_M → Prop} (hk5 : ∀ (v3 : Int) (v5 : Int) (M : am_M), k5 v3 v5 M → am_W (am_CC 7) dt_X5_hashPoints 7 0 none (am_QL Q) QX (0, 5, [(0, .inr (.inl (some 0))), (3, .inr (.inr (.inl (v3)))), (5, .inl (v5))], [], M)) (hX : ∀ E M, X E M → QX E M) : ∀ (n : Nat) (v3 : Int) (v5 : Int) (v6 : Int) (M : am_M), wl_X5_hashPoints_20 Q X k5 n v3 v5 v6 M → am_W (am_CC 7) dt_X5_hashPoints 7 0 none (am_QL Q) QX (0, 20, [(0, .inr (.inl (some 0))), (3, .inr (.inr (.inl (v3)))), (5, .inl (v5)), (6, .inl (v6))], [], M)
  | 0, _, _, _, _, h => h.elim
  | n + 1, v3, v5, v6, M, h => by
    refine am_Wrun 2 (ps := [-128 ≤ (7 : Int) ∧ (7 : Int) ≤ 127]) (pc' := 24) (lv' := [(0, .inr (.inl (some 0))), (3, .inr (.inr (.inl (v3)))), (5, .inl (v5)), (6, .inl (v6))]) (st' := [.inl (7), .inl (v6)]) (M' := M) rfl ⟨⟨by decide, by decide⟩, trivial⟩ ?_
    obtain ⟨b0, ht, hf⟩ := h
    refine am_Wbr (P := [am_rg v6, am_rg 7]) (c := 7 < v6) (t := 49) (f := 27) (st' := []) rfl rfl ⟨b0, (am_rgd rfl), trivial⟩ rfl (fun q => ?_) (fun q => ?_)
    · have h := ht q
      refine am_Wrun 6 (ps := []) (pc' := 58) (lv' := [(0, .inr (.inl (some 0))), (3, .inr (.inr (.inl (v3)))), (5, .inl (v5)), (6, .inl (v6))]) (st' := [.inl (0), .inl (v5), .inr (.inl (some 0)), .inr (.inr (.inl (31 * v3)))]) (M' := M) rfl trivial ?_
      refine am_WcallV (y := 48) (n := 3) (a := 0) (f := 61) (as := [.inl (v5), .inl (0)]) (st' := [.inr (.inr (.inl (31 * v3)))]) rfl rfl rfl rfl rfl rfl rfl rfl rfl rfl (Nat.zero_le _) rfl (am_CC_le (Nat.le_of_ble_eq_true rfl) (tm_X5_error h)) (fun r M2 q => ?_) (fun E M q => hX _ _ q)
      obtain ⟨x1, rfl, h⟩ := q
      obtain ⟨c0_0, h⟩ := h
      refine am_Wrun 9 (ps := [am_rg x1]) (pc' := 73) (lv' := [(3, .inr (.inr (.inl ((31 * v3) + x1)))), (0, .inr (.inl (some 0))), (5, .inl (v5)), (6, .inl (v6))]) (st' := [.inl (1), .inl (v5), .inr (.inl (some 0)), .inr (.inr (.inl (31 * ((31 * v3) + x1))))]) (M' := M2) rfl ⟨c0_0, trivial⟩ ?_
      refine am_WcallV (y := 48) (n := 3) (a := 0) (f := 76) (as := [.inl (v5), .inl (1)]) (st' := [.inr (.inr (.inl (31 * ((31 * v3) + x1))))]) rfl rfl rfl rfl rfl rfl rfl rfl rfl rfl (Nat.zero_le _) rfl (am_CC_le (Nat.le_of_ble_eq_true rfl) (tm_X5_error h)) (fun r M4 q => ?_) (fun E M q => hX _ _ q)
      obtain ⟨x3, rfl, h⟩ := q
      obtain ⟨c0_0, h⟩ := h
      refine am_Wrun 5 (ps := [am_rg x3]) (pc' := 5) (lv' := [(5, .inl (v5 + 1)), (3, .inr (.inr (.inl ((31 * ((31 * v3) + x1)) + x3)))), (0, .inr (.inl (some 0))), (6, .inl (v6))]) (st' := []) (M' := M4) rfl ⟨c0_0, trivial⟩ ?_
      refine am_W_sub [2, 1, 0] rfl ?_
      exact hk5 ((31 * ((31 * v3) + x1)) + x3) (v5 + 1) M4 h
    · have h := hf q
      refine am_Wrun 6 (ps := []) (pc' := 37) (lv' := [(0, .inr (.inl (some 0))), (3, .inr (.inr (.inl (v3)))), (5, .inl (v5)), (6, .inl (v6))]) (st' := [.inl (v6), .inl (v5), .inr (.inl (some 0)), .inr (.inr (.inl (31 * v3)))]) (M' := M) rfl trivial ?_
      refine am_WcallV (y := 43) (n := 3) (a := 0) (f := 40) (as := [.inl (v5), .inl (v6)]) (st' := [.inr (.inr (.inl (31 * v3)))]) rfl rfl rfl rfl rfl rfl rfl rfl rfl rfl (Nat.zero_le _) rfl (am_CC_le (Nat.le_of_ble_eq_true rfl) (tm_X5_point h)) (fun r M6 q => ?_) (fun E M q => hX _ _ q)
      obtain ⟨x5, rfl, h⟩ := q
      obtain ⟨c0_0, h⟩ := h
      refine am_Wrun 5 (ps := [am_rg x5]) (pc' := 20) (lv' := [(6, .inl (v6 + 1)), (3, .inr (.inr (.inl ((31 * v3) + x5)))), (0, .inr (.inl (some 0))), (5, .inl (v5))]) (st' := []) (M' := M6) rfl ⟨c0_0, trivial⟩ ?_
      refine am_W_sub [2, 1, 3, 0] rfl ?_
      exact tw_X5_hashPoints_20 hk5 hX n ((31 * v3) + x5) v5 (v6 + 1) M6 h
set_option maxRecDepth 20000 in
theorem tw_X5_hashPoints_5 {Q : Int → am_M → Prop} {X : am_X} {QX : am_X} (hX : ∀ E M, X E M → QX E M) : ∀ (n : Nat) (v3 : Int) (v5 : Int) (M : am_M), wl_X5_hashPoints_5 Q X n v3 v5 M → am_W (am_CC 7) dt_X5_hashPoints 7 0 none (am_QL Q) QX (0, 5, [(0, .inr (.inl (some 0))), (3, .inr (.inr (.inl (v3)))), (5, .inl (v5))], [], M)
  | 0, _, _, _, h => h.elim
  | n + 1, v3, v5, M, h => by
    refine am_Wrun 4 (ps := []) (pc' := 14) (lv' := [(0, .inr (.inl (some 0))), (3, .inr (.inr (.inl (v3)))), (5, .inl (v5))]) (st' := [.inl (M 1 7), .inl (v5)]) (M' := M) rfl trivial ?_
    obtain ⟨b0, b1, ht, hf⟩ := h
    refine am_Wbr (P := [am_rg v5, am_rg (M 1 7)]) (c := (M 1 7) ≤ v5) (t := 85) (f := 17) (st' := []) rfl rfl ⟨b0, b1, trivial⟩ rfl (fun q => ?_) (fun q => ?_)
    · have h := ht q
      refine am_Wrun 1 (ps := []) (pc' := 86) (lv' := [(0, .inr (.inl (some 0))), (3, .inr (.inr (.inl (v3)))), (5, .inl (v5))]) (st' := [.inr (.inr (.inl (v3)))]) (M' := M) rfl trivial ?_
      exact am_Wretl rfl rfl h
    · have h := hf q
      refine am_Wrun 2 (ps := []) (pc' := 20) (lv' := [(6, .inl (0)), (0, .inr (.inl (some 0))), (3, .inr (.inr (.inl (v3)))), (5, .inl (v5))]) (st' := []) (M' := M) rfl trivial ?_
      refine am_W_sub [1, 2, 3, 0] rfl ?_
      obtain ⟨n20, h⟩ := h
      exact tw_X5_hashPoints_20 (tw_X5_hashPoints_5 hX n) hX n20 v3 v5 0 M h
set_option maxRecDepth 20000 in
theorem tm_X5_hashPoints {a0 : Int} {M : am_M} {Q : Int → am_M → Prop} {X : am_X} (h : wp_X5_hashPoints a0 M Q X) : am_CC 8 42 [.inr (.inl (some 0)), .inr (.inr (.inl (a0)))] M (am_QL Q) X := by
  refine ⟨Nat.le_of_ble_eq_true rfl, ?_⟩
  show am_W (am_CC 7) dt_X5_hashPoints 7 0 none (am_QL Q) (am_qx 42 X) (0, 0, [(0, .inr (.inl (some 0))), (1, .inr (.inr (.inl (a0))))], [], M)
  have hX : ∀ E M, X E M → am_qx 42 X E M := fun E M q => ⟨⟨rfl, by decide⟩, q⟩
  refine am_Wrun 4 (ps := []) (pc' := 5) (lv' := [(5, .inl (0)), (3, .inr (.inr (.inl (a0)))), (0, .inr (.inl (some 0))), (1, .inr (.inr (.inl (a0))))]) (st' := []) (M' := M) rfl trivial ?_
  refine am_W_sub [2, 1, 0] rfl ?_
  obtain ⟨n5, h⟩ := h
  exact tw_X5_hashPoints_5 hX n5 a0 0 M h
abbrev dt_X5_hashStretches : am_D := (tk_X5_hashStretches, 5, 8, some .long, tb_hn 49)
def wl_X5_hashStretches_24 (Q : Int → am_M → Prop) (X : am_X) (k14 : Int → Int → Int → am_M → Prop) : Nat → Int → Int → Int → Int → am_M → Prop
  | 0, _, _, _, _, _ => False
  | n + 1, v3, v5, v6, v7, M => (am_rg v7) ∧ (4 < v7 → k14 v3 v5 (v6 + 1) M) ∧ (¬ 4 < v7 → wp_X5_stretch v6 v7 M (fun x3 M4 => (am_rg x3) ∧ (wl_X5_hashStretches_24 Q X k14 n ((31 * v3) + x3) v5 v6 (v7 + 1) M4)) X)
def wl_X5_hashStretches_14 (Q : Int → am_M → Prop) (X : am_X) : Nat → Int → Int → Int → am_M → Prop
  | 0, _, _, _, _ => False
  | n + 1, v3, v5, v6, M => (am_rg v6) ∧ (am_rg v5) ∧ (v5 ≤ v6 → Q v3 M) ∧ (¬ v5 ≤ v6 → ∃ e24, wl_X5_hashStretches_24 Q X (wl_X5_hashStretches_14 Q X n) e24 v3 v5 v6 0 M)
def wp_X5_hashStretches (a0 : Int) (M : am_M) (Q : Int → am_M → Prop) (X : am_X) : Prop := wp_X2_stretchCount M (fun x1 M2 => ∃ e14, wl_X5_hashStretches_14 Q X e14 a0 x1 0 M2)
set_option maxRecDepth 20000 in
theorem tw_X5_hashStretches_24 {Q : Int → am_M → Prop} {X : am_X} {QX : am_X} {k14 : Int → Int → Int → am_M → Prop} (hk14 : ∀ (v3 : Int) (v5 : Int) (v6 : Int) (M : am_M), k14 v3 v5 v6 M → am_W (am_CC 7) dt_X5_hashStretches 7 0 none (am_QL Q) QX (0, 14, [(0, .inr (.inl (some 0))), (3, .inr (.inr (.inl (v3)))), (5, .inl (v5)), (6, .inl (v6))], [], M)) (hX : ∀ E M, X E M → QX E M) : ∀ (n : Nat) (v3 : Int) (v5 : Int) (v6 : Int) (v7 : Int) (M : am_M), wl_X5_hashStretches_24 Q X k14 n v3 v5 v6 v7 M → am_W (am_CC 7) dt_X5_hashStretches 7 0 none (am_QL Q) QX (0, 24, [(0, .inr (.inl (some 0))), (3, .inr (.inr (.inl (v3)))), (5, .inl (v5)), (6, .inl (v6)), (7, .inl (v7))], [], M)
  | 0, _, _, _, _, _, h => h.elim
  | n + 1, v3, v5, v6, v7, M, h => by
    refine am_Wrun 2 (ps := []) (pc' := 27) (lv' := [(0, .inr (.inl (some 0))), (3, .inr (.inr (.inl (v3)))), (5, .inl (v5)), (6, .inl (v6)), (7, .inl (v7))]) (st' := [.inl (4), .inl (v7)]) (M' := M) rfl trivial ?_
    obtain ⟨b0, ht, hf⟩ := h
    refine am_Wbr (P := [am_rg v7, am_rg 4]) (c := 4 < v7) (t := 52) (f := 30) (st' := []) rfl rfl ⟨b0, (am_rgd rfl), trivial⟩ rfl (fun q => ?_) (fun q => ?_)
    · have h := ht q
      refine am_Wrun 2 (ps := []) (pc' := 14) (lv' := [(6, .inl (v6 + 1)), (0, .inr (.inl (some 0))), (3, .inr (.inr (.inl (v3)))), (5, .inl (v5)), (7, .inl (v7))]) (st' := []) (M' := M) rfl trivial ?_
      refine am_W_sub [1, 2, 3, 0] rfl ?_
      exact hk14 v3 v5 (v6 + 1) M h
    · have h := hf q
      refine am_Wrun 6 (ps := []) (pc' := 40) (lv' := [(0, .inr (.inl (some 0))), (3, .inr (.inr (.inl (v3)))), (5, .inl (v5)), (6, .inl (v6)), (7, .inl (v7))]) (st' := [.inl (v7), .inl (v6), .inr (.inl (some 0)), .inr (.inr (.inl (31 * v3)))]) (M' := M) rfl trivial ?_
      refine am_WcallV (y := 50) (n := 3) (a := 0) (f := 43) (as := [.inl (v6), .inl (v7)]) (st' := [.inr (.inr (.inl (31 * v3)))]) rfl rfl rfl rfl rfl rfl rfl rfl rfl rfl (Nat.zero_le _) rfl (am_CC_le (Nat.le_of_ble_eq_true rfl) (tm_X5_stretch h)) (fun r M4 q => ?_) (fun E M q => hX _ _ q)
      obtain ⟨x3, rfl, h⟩ := q
      obtain ⟨c0_0, h⟩ := h
      refine am_Wrun 5 (ps := [am_rg x3]) (pc' := 24) (lv' := [(7, .inl (v7 + 1)), (3, .inr (.inr (.inl ((31 * v3) + x3)))), (0, .inr (.inl (some 0))), (5, .inl (v5)), (6, .inl (v6))]) (st' := []) (M' := M4) rfl ⟨c0_0, trivial⟩ ?_
      refine am_W_sub [2, 1, 3, 4, 0] rfl ?_
      exact tw_X5_hashStretches_24 hk14 hX n ((31 * v3) + x3) v5 v6 (v7 + 1) M4 h
set_option maxRecDepth 20000 in
theorem tw_X5_hashStretches_14 {Q : Int → am_M → Prop} {X : am_X} {QX : am_X} (hX : ∀ E M, X E M → QX E M) : ∀ (n : Nat) (v3 : Int) (v5 : Int) (v6 : Int) (M : am_M), wl_X5_hashStretches_14 Q X n v3 v5 v6 M → am_W (am_CC 7) dt_X5_hashStretches 7 0 none (am_QL Q) QX (0, 14, [(0, .inr (.inl (some 0))), (3, .inr (.inr (.inl (v3)))), (5, .inl (v5)), (6, .inl (v6))], [], M)
  | 0, _, _, _, _, h => h.elim
  | n + 1, v3, v5, v6, M, h => by
    refine am_Wrun 2 (ps := []) (pc' := 18) (lv' := [(0, .inr (.inl (some 0))), (3, .inr (.inr (.inl (v3)))), (5, .inl (v5)), (6, .inl (v6))]) (st' := [.inl (v5), .inl (v6)]) (M' := M) rfl trivial ?_
    obtain ⟨b0, b1, ht, hf⟩ := h
    refine am_Wbr (P := [am_rg v6, am_rg v5]) (c := v5 ≤ v6) (t := 58) (f := 21) (st' := []) rfl rfl ⟨b0, b1, trivial⟩ rfl (fun q => ?_) (fun q => ?_)
    · have h := ht q
      refine am_Wrun 1 (ps := []) (pc' := 59) (lv' := [(0, .inr (.inl (some 0))), (3, .inr (.inr (.inl (v3)))), (5, .inl (v5)), (6, .inl (v6))]) (st' := [.inr (.inr (.inl (v3)))]) (M' := M) rfl trivial ?_
      exact am_Wretl rfl rfl h
    · have h := hf q
      refine am_Wrun 2 (ps := []) (pc' := 24) (lv' := [(7, .inl (0)), (0, .inr (.inl (some 0))), (3, .inr (.inr (.inl (v3)))), (5, .inl (v5)), (6, .inl (v6))]) (st' := []) (M' := M) rfl trivial ?_
      refine am_W_sub [1, 2, 3, 4, 0] rfl ?_
      obtain ⟨n24, h⟩ := h
      exact tw_X5_hashStretches_24 (tw_X5_hashStretches_14 hX n) hX n24 v3 v5 v6 0 M h
set_option maxRecDepth 20000 in
theorem tm_X5_hashStretches {a0 : Int} {M : am_M} {Q : Int → am_M → Prop} {X : am_X} (h : wp_X5_hashStretches a0 M Q X) : am_CC 8 49 [.inr (.inl (some 0)), .inr (.inr (.inl (a0)))] M (am_QL Q) X := by
  refine ⟨Nat.le_of_ble_eq_true rfl, ?_⟩
  show am_W (am_CC 7) dt_X5_hashStretches 7 0 none (am_QL Q) (am_qx 49 X) (0, 0, [(0, .inr (.inl (some 0))), (1, .inr (.inr (.inl (a0))))], [], M)
  have hX : ∀ E M, X E M → am_qx 49 X E M := fun E M q => ⟨⟨rfl, by decide⟩, q⟩
  refine am_Wrun 4 (ps := []) (pc' := 6) (lv' := [(3, .inr (.inr (.inl (a0)))), (0, .inr (.inl (some 0))), (1, .inr (.inr (.inl (a0))))]) (st' := [.inr (.inl (some 1))]) (M' := M) rfl trivial ?_
  refine am_WcallV (y := 36) (n := 1) (a := 1) (f := 9) (as := []) (st' := []) rfl rfl rfl rfl rfl rfl rfl rfl rfl rfl (Nat.zero_le _) rfl (am_CC_le (Nat.le_of_ble_eq_true rfl) (tm_X2_stretchCount h)) (fun r M2 q => ?_) (fun _ _ q => q.elim)
  obtain ⟨x1, rfl, h⟩ := q
  refine am_Wrun 3 (ps := []) (pc' := 14) (lv' := [(6, .inl (0)), (5, .inl (x1)), (3, .inr (.inr (.inl (a0)))), (0, .inr (.inl (some 0))), (1, .inr (.inr (.inl (a0))))]) (st' := []) (M' := M2) rfl trivial ?_
  refine am_W_sub [3, 2, 1, 0] rfl ?_
  obtain ⟨n14, h⟩ := h
  exact tw_X5_hashStretches_14 hX n14 a0 x1 0 M2 h
abbrev dt_X5_hashNotes : am_D := (tk_X5_hashNotes, 5, 7, some .long, tb_hn 61)
def wl_X5_hashNotes_20 (Q : Int → am_M → Prop) (X : am_X) (k5 : Int → Int → am_M → Prop) : Nat → Int → Int → Int → am_M → Prop
  | 0, _, _, _, _ => False
  | n + 1, v3, v5, v6, M => (am_rg v6) ∧ (2 < v6 → k5 v3 (v5 + 1) M) ∧ (¬ 2 < v6 → wp_X5_noteAt v5 v6 M (fun x1 M2 => (am_rg x1) ∧ (wl_X5_hashNotes_20 Q X k5 n ((31 * v3) + x1) v5 (v6 + 1) M2)) X)
def wl_X5_hashNotes_5 (Q : Int → am_M → Prop) (X : am_X) : Nat → Int → Int → am_M → Prop
  | 0, _, _, _ => False
  | n + 1, v3, v5, M => (am_rg v5) ∧ (am_rg (M 1 8)) ∧ ((M 1 8) ≤ v5 → Q v3 M) ∧ (¬ (M 1 8) ≤ v5 → ∃ e20, wl_X5_hashNotes_20 Q X (wl_X5_hashNotes_5 Q X n) e20 v3 v5 0 M)
def wp_X5_hashNotes (a0 : Int) (M : am_M) (Q : Int → am_M → Prop) (X : am_X) : Prop := ∃ e5, wl_X5_hashNotes_5 Q X e5 a0 0 M
set_option maxRecDepth 20000 in
theorem tw_X5_hashNotes_20 {Q : Int → am_M → Prop} {X : am_X} {QX : am_X} {k5 : Int → Int → am_M → Prop} (hk5 : ∀ (v3 : Int) (v5 : Int) (M : am_M), k5 v3 v5 M → am_W (am_CC 7) dt_X5_hashNotes 7 0 none (am_QL Q) QX (0, 5, [(0, .inr (.inl (some 0))), (3, .inr (.inr (.inl (v3)))), (5, .inl (v5))], [], M)) (hX : ∀ E M, X E M → QX E M) : ∀ (n : Nat) (v3 : Int) (v5 : Int) (v6 : Int) (M : am_M), wl_X5_hashNotes_20 Q X k5 n v3 v5 v6 M → am_W (am_CC 7) dt_X5_hashNotes 7 0 none (am_QL Q) QX (0, 20, [(0, .inr (.inl (some 0))), (3, .inr (.inr (.inl (v3)))), (5, .inl (v5)), (6, .inl (v6))], [], M)
  | 0, _, _, _, _, h => h.elim
  | n + 1, v3, v5, v6, M, h => by
    refine am_Wrun 2 (ps := []) (pc' := 23) (lv' := [(0, .inr (.inl (some 0))), (3, .inr (.inr (.inl (v3)))), (5, .inl (v5)), (6, .inl (v6))]) (st' := [.inl (2), .inl (v6)]) (M' := M) rfl trivial ?_
    obtain ⟨b0, ht, hf⟩ := h
    refine am_Wbr (P := [am_rg v6, am_rg 2]) (c := 2 < v6) (t := 48) (f := 26) (st' := []) rfl rfl ⟨b0, (am_rgd rfl), trivial⟩ rfl (fun q => ?_) (fun q => ?_)
    · have h := ht q
      refine am_Wrun 2 (ps := []) (pc' := 5) (lv' := [(5, .inl (v5 + 1)), (0, .inr (.inl (some 0))), (3, .inr (.inr (.inl (v3)))), (6, .inl (v6))]) (st' := []) (M' := M) rfl trivial ?_
      refine am_W_sub [1, 2, 0] rfl ?_
      exact hk5 v3 (v5 + 1) M h
    · have h := hf q
      refine am_Wrun 6 (ps := []) (pc' := 36) (lv' := [(0, .inr (.inl (some 0))), (3, .inr (.inr (.inl (v3)))), (5, .inl (v5)), (6, .inl (v6))]) (st' := [.inl (v6), .inl (v5), .inr (.inl (some 0)), .inr (.inr (.inl (31 * v3)))]) (M' := M) rfl trivial ?_
      refine am_WcallV (y := 62) (n := 3) (a := 0) (f := 39) (as := [.inl (v5), .inl (v6)]) (st' := [.inr (.inr (.inl (31 * v3)))]) rfl rfl rfl rfl rfl rfl rfl rfl rfl rfl (Nat.zero_le _) rfl (am_CC_le (Nat.le_of_ble_eq_true rfl) (tm_X5_noteAt h)) (fun r M2 q => ?_) (fun E M q => hX _ _ q)
      obtain ⟨x1, rfl, h⟩ := q
      obtain ⟨c0_0, h⟩ := h
      refine am_Wrun 5 (ps := [am_rg x1]) (pc' := 20) (lv' := [(6, .inl (v6 + 1)), (3, .inr (.inr (.inl ((31 * v3) + x1)))), (0, .inr (.inl (some 0))), (5, .inl (v5))]) (st' := []) (M' := M2) rfl ⟨c0_0, trivial⟩ ?_
      refine am_W_sub [2, 1, 3, 0] rfl ?_
      exact tw_X5_hashNotes_20 hk5 hX n ((31 * v3) + x1) v5 (v6 + 1) M2 h
set_option maxRecDepth 20000 in
theorem tw_X5_hashNotes_5 {Q : Int → am_M → Prop} {X : am_X} {QX : am_X} (hX : ∀ E M, X E M → QX E M) : ∀ (n : Nat) (v3 : Int) (v5 : Int) (M : am_M), wl_X5_hashNotes_5 Q X n v3 v5 M → am_W (am_CC 7) dt_X5_hashNotes 7 0 none (am_QL Q) QX (0, 5, [(0, .inr (.inl (some 0))), (3, .inr (.inr (.inl (v3)))), (5, .inl (v5))], [], M)
  | 0, _, _, _, h => h.elim
  | n + 1, v3, v5, M, h => by
    refine am_Wrun 4 (ps := []) (pc' := 14) (lv' := [(0, .inr (.inl (some 0))), (3, .inr (.inr (.inl (v3)))), (5, .inl (v5))]) (st' := [.inl (M 1 8), .inl (v5)]) (M' := M) rfl trivial ?_
    obtain ⟨b0, b1, ht, hf⟩ := h
    refine am_Wbr (P := [am_rg v5, am_rg (M 1 8)]) (c := (M 1 8) ≤ v5) (t := 54) (f := 17) (st' := []) rfl rfl ⟨b0, b1, trivial⟩ rfl (fun q => ?_) (fun q => ?_)
    · have h := ht q
      refine am_Wrun 1 (ps := []) (pc' := 55) (lv' := [(0, .inr (.inl (some 0))), (3, .inr (.inr (.inl (v3)))), (5, .inl (v5))]) (st' := [.inr (.inr (.inl (v3)))]) (M' := M) rfl trivial ?_
      exact am_Wretl rfl rfl h
    · have h := hf q
      refine am_Wrun 2 (ps := []) (pc' := 20) (lv' := [(6, .inl (0)), (0, .inr (.inl (some 0))), (3, .inr (.inr (.inl (v3)))), (5, .inl (v5))]) (st' := []) (M' := M) rfl trivial ?_
      refine am_W_sub [1, 2, 3, 0] rfl ?_
      obtain ⟨n20, h⟩ := h
      exact tw_X5_hashNotes_20 (tw_X5_hashNotes_5 hX n) hX n20 v3 v5 0 M h
set_option maxRecDepth 20000 in
theorem tm_X5_hashNotes {a0 : Int} {M : am_M} {Q : Int → am_M → Prop} {X : am_X} (h : wp_X5_hashNotes a0 M Q X) : am_CC 8 61 [.inr (.inl (some 0)), .inr (.inr (.inl (a0)))] M (am_QL Q) X := by
  refine ⟨Nat.le_of_ble_eq_true rfl, ?_⟩
  show am_W (am_CC 7) dt_X5_hashNotes 7 0 none (am_QL Q) (am_qx 61 X) (0, 0, [(0, .inr (.inl (some 0))), (1, .inr (.inr (.inl (a0))))], [], M)
  have hX : ∀ E M, X E M → am_qx 61 X E M := fun E M q => ⟨⟨rfl, by decide⟩, q⟩
  refine am_Wrun 4 (ps := []) (pc' := 5) (lv' := [(5, .inl (0)), (3, .inr (.inr (.inl (a0)))), (0, .inr (.inl (some 0))), (1, .inr (.inr (.inl (a0))))]) (st' := []) (M' := M) rfl trivial ?_
  refine am_W_sub [2, 1, 0] rfl ?_
  obtain ⟨n5, h⟩ := h
  exact tw_X5_hashNotes_5 hX n5 a0 0 M h
abbrev dt_X5_bitsOf : am_D := (tk_X5_bitsOf, 5, 7, some .long, tb_hn 74)
def wj_X5_bitsOf_49 (Q : Int → am_M → Prop) (v2 : UInt64) (v4 : Int) (M : am_M) : Prop := (vf_n64 (FP.dsub v2 FP.dconst1)) ∧ (vf_n64 (FP.dmul (FP.dsub v2 FP.dconst1) 4841369599423283200)) ∧ (Q (((Int64.ofInt v4 <<< ((Int32.ofInt 52).toInt64 &&& 63)).toInt) + ((FP.d2l (FP.dmul (FP.dsub v2 FP.dconst1) 4841369599423283200)).toInt)) M)
def wl_X5_bitsOf_18 (Q : Int → am_M → Prop) : Nat → UInt64 → Int → Int → am_M → Prop
  | 0, _, _, _, _ => False
  | n + 1, v2, v4, v6, M => (am_rg v6) ∧ (64 ≤ v6 → wj_X5_bitsOf_49 Q v2 v4 M) ∧ (¬ 64 ≤ v6 → (am_rg ((Op.cmpValue (FP.dcmp v2 FP.dconst1) .g).toInt)) ∧ (0 ≤ ((Op.cmpValue (FP.dcmp v2 FP.dconst1) .g).toInt) → wj_X5_bitsOf_49 Q v2 v4 M) ∧ (¬ 0 ≤ ((Op.cmpValue (FP.dcmp v2 FP.dconst1) .g).toInt) → (vf_n64 (FP.dmul v2 4611686018427387904)) ∧ (wl_X5_bitsOf_18 Q n (FP.dmul v2 4611686018427387904) (v4 - 1) (v6 + 1) M)))
def wp_X5_bitsOf (a0 : UInt64) (M : am_M) (Q : Int → am_M → Prop) : Prop := (am_rg ((Op.cmpValue (FP.dcmp a0 FP.dconst0) .l).toInt)) ∧ (0 < ((Op.cmpValue (FP.dcmp a0 FP.dconst0) .l).toInt) → ∃ e18, wl_X5_bitsOf_18 Q e18 a0 1023 0 M) ∧ (¬ 0 < ((Op.cmpValue (FP.dcmp a0 FP.dconst0) .l).toInt) → Q 0 M)
set_option maxRecDepth 20000 in
theorem tj_X5_bitsOf_49 {Q : Int → am_M → Prop} {QX : am_X} (v2 : UInt64) (v4 : Int) (M : am_M) (h : wj_X5_bitsOf_49 Q v2 v4 M) : am_W (am_CC 0) dt_X5_bitsOf 0 0 none (am_QL Q) QX (0, 49, [(2, .inr (.inr (.inr (v2)))), (4, .inr (.inr (.inl (v4))))], [], M) := by
  obtain ⟨c1_0, c2_0, h⟩ := h
  refine am_Wrun 10 (ps := [-128 ≤ (52 : Int) ∧ (52 : Int) ≤ 127, vf_n64 (FP.dsub v2 FP.dconst1), vf_n64 (FP.dmul (FP.dsub v2 FP.dconst1) 4841369599423283200)]) (pc' := 63) (lv' := [(2, .inr (.inr (.inr (v2)))), (4, .inr (.inr (.inl (v4))))]) (st' := [.inr (.inr (.inl (((Int64.ofInt v4 <<< ((Int32.ofInt 52).toInt64 &&& 63)).toInt) + ((FP.d2l (FP.dmul (FP.dsub v2 FP.dconst1) 4841369599423283200)).toInt))))]) (M' := M) rfl ⟨⟨by decide, by decide⟩, c1_0, c2_0, trivial⟩ ?_
  exact am_Wretl rfl rfl h
set_option maxRecDepth 20000 in
theorem tw_X5_bitsOf_18 {Q : Int → am_M → Prop} {QX : am_X} : ∀ (n : Nat) (v2 : UInt64) (v4 : Int) (v6 : Int) (M : am_M), wl_X5_bitsOf_18 Q n v2 v4 v6 M → am_W (am_CC 0) dt_X5_bitsOf 0 0 none (am_QL Q) QX (0, 18, [(2, .inr (.inr (.inr (v2)))), (4, .inr (.inr (.inl (v4)))), (6, .inl (v6))], [], M)
  | 0, _, _, _, _, h => h.elim
  | n + 1, v2, v4, v6, M, h => by
    refine am_Wrun 2 (ps := [-128 ≤ (64 : Int) ∧ (64 : Int) ≤ 127]) (pc' := 22) (lv' := [(2, .inr (.inr (.inr (v2)))), (4, .inr (.inr (.inl (v4)))), (6, .inl (v6))]) (st' := [.inl (64), .inl (v6)]) (M' := M) rfl ⟨⟨by decide, by decide⟩, trivial⟩ ?_
    obtain ⟨b0, ht, hf⟩ := h
    refine am_Wbr (P := [am_rg v6, am_rg 64]) (c := 64 ≤ v6) (t := 49) (f := 25) (st' := []) rfl rfl ⟨b0, (am_rgd rfl), trivial⟩ rfl (fun q => ?_) (fun q => ?_)
    · have h := ht q
      refine am_W_sub [0, 1] rfl ?_
      exact tj_X5_bitsOf_49 v2 v4 M h
    · have h := hf q
      refine am_Wrun 3 (ps := []) (pc' := 28) (lv' := [(2, .inr (.inr (.inr (v2)))), (4, .inr (.inr (.inl (v4)))), (6, .inl (v6))]) (st' := [.inl ((Op.cmpValue (FP.dcmp v2 FP.dconst1) .g).toInt)]) (M' := M) rfl trivial ?_
      obtain ⟨b0, ht, hf⟩ := h
      refine am_Wbr (P := [am_rg ((Op.cmpValue (FP.dcmp v2 FP.dconst1) .g).toInt)]) (c := 0 ≤ ((Op.cmpValue (FP.dcmp v2 FP.dconst1) .g).toInt)) (t := 49) (f := 31) (st' := []) rfl rfl ⟨b0, trivial⟩ rfl (fun q => ?_) (fun q => ?_)
      · have h := ht q
        refine am_W_sub [0, 1] rfl ?_
        exact tj_X5_bitsOf_49 v2 v4 M h
      · have h := hf q
        obtain ⟨c0_0, h⟩ := h
        refine am_Wrun 10 (ps := [vf_n64 (FP.dmul v2 4611686018427387904)]) (pc' := 18) (lv' := [(6, .inl (v6 + 1)), (4, .inr (.inr (.inl (v4 - 1)))), (2, .inr (.inr (.inr (FP.dmul v2 4611686018427387904))))]) (st' := []) (M' := M) rfl ⟨c0_0, trivial⟩ ?_
        refine am_W_sub [2, 1, 0] rfl ?_
        exact tw_X5_bitsOf_18 n (FP.dmul v2 4611686018427387904) (v4 - 1) (v6 + 1) M h
set_option maxRecDepth 20000 in
theorem tm_X5_bitsOf {a0 : UInt64} {M : am_M} {Q : Int → am_M → Prop} (h : wp_X5_bitsOf a0 M Q) : am_CC 1 74 [.inr (.inr (.inr (a0)))] M (am_QL Q) (fun _ _ => False) := by
  refine ⟨Nat.le_of_ble_eq_true rfl, ?_⟩
  show am_W (am_CC 0) dt_X5_bitsOf 0 0 none (am_QL Q) (am_qx 74 (fun _ _ => False)) (0, 0, [(0, .inr (.inr (.inr (a0))))], [], M)
  refine am_Wrun 3 (ps := []) (pc' := 3) (lv' := [(0, .inr (.inr (.inr (a0))))]) (st' := [.inl ((Op.cmpValue (FP.dcmp a0 FP.dconst0) .l).toInt)]) (M' := M) rfl trivial ?_
  obtain ⟨b0, ht, hf⟩ := h
  refine am_Wbr (P := [am_rg ((Op.cmpValue (FP.dcmp a0 FP.dconst0) .l).toInt)]) (c := 0 < ((Op.cmpValue (FP.dcmp a0 FP.dconst0) .l).toInt)) (t := 8) (f := 6) (st' := []) rfl rfl ⟨b0, trivial⟩ rfl (fun q => ?_) (fun q => ?_)
  · have h := ht q
    refine am_Wrun 6 (ps := []) (pc' := 18) (lv' := [(6, .inl (0)), (4, .inr (.inr (.inl (1023)))), (2, .inr (.inr (.inr (a0)))), (0, .inr (.inr (.inr (a0))))]) (st' := []) (M' := M) rfl trivial ?_
    refine am_W_sub [2, 1, 0] rfl ?_
    obtain ⟨n18, h⟩ := h
    exact tw_X5_bitsOf_18 n18 a0 1023 0 M h
  · have h := hf q
    refine am_Wrun 1 (ps := []) (pc' := 7) (lv' := [(0, .inr (.inr (.inr (a0))))]) (st' := [.inr (.inr (.inl (0)))]) (M' := M) rfl trivial ?_
    exact am_Wretl rfl rfl h
abbrev dt_X5_hashText : am_D := (tk_X5_hashText, 5, 6, some .long, tb_hn 75)
def wl_X5_hashText_18 (Q : Int → am_M → Prop) : Nat → Int → Int → am_M → Prop
  | 0, _, _, _ => False
  | n + 1, v3, v5, M => (am_rg v5) ∧ (am_rg (M 64 1)) ∧ ((M 64 1) ≤ v5 → Q v3 M) ∧ (¬ (M 64 1) ≤ v5 → (0 ≤ (v5 : Int) ∧ (v5 : Int) < 60) ∧ (am_rg (M 65 v5)) ∧ (wl_X5_hashText_18 Q n ((31 * v3) + (M 65 v5)) (v5 + 1) M))
def wp_X5_hashText (a0 : Int) (M : am_M) (Q : Int → am_M → Prop) : Prop := (am_rg (M 64 1)) ∧ (∃ e18, wl_X5_hashText_18 Q e18 ((31 * a0) + (M 64 1)) 0 M)
set_option maxRecDepth 20000 in
theorem tw_X5_hashText_18 {Q : Int → am_M → Prop} {QX : am_X} : ∀ (n : Nat) (v3 : Int) (v5 : Int) (M : am_M), wl_X5_hashText_18 Q n v3 v5 M → am_W (am_CC 0) dt_X5_hashText 0 0 none (am_QL Q) QX (0, 18, [(0, .inr (.inl (some 0))), (3, .inr (.inr (.inl (v3)))), (5, .inl (v5))], [], M)
  | 0, _, _, _, h => h.elim
  | n + 1, v3, v5, M, h => by
    refine am_Wrun 4 (ps := []) (pc' := 27) (lv' := [(0, .inr (.inl (some 0))), (3, .inr (.inr (.inl (v3)))), (5, .inl (v5))]) (st' := [.inl (M 64 1), .inl (v5)]) (M' := M) rfl trivial ?_
    obtain ⟨b0, b1, ht, hf⟩ := h
    refine am_Wbr (P := [am_rg v5, am_rg (M 64 1)]) (c := (M 64 1) ≤ v5) (t := 54) (f := 30) (st' := []) rfl rfl ⟨b0, b1, trivial⟩ rfl (fun q => ?_) (fun q => ?_)
    · have h := ht q
      refine am_Wrun 1 (ps := []) (pc' := 55) (lv' := [(0, .inr (.inl (some 0))), (3, .inr (.inr (.inl (v3)))), (5, .inl (v5))]) (st' := [.inr (.inr (.inl (v3)))]) (M' := M) rfl trivial ?_
      exact am_Wretl rfl rfl h
    · have h := hf q
      obtain ⟨c0_0, c1_0, h⟩ := h
      refine am_Wrun 13 (ps := [0 ≤ (v5 : Int) ∧ (v5 : Int) < 60, am_rg (M 65 v5)]) (pc' := 18) (lv' := [(5, .inl (v5 + 1)), (3, .inr (.inr (.inl ((31 * v3) + (M 65 v5))))), (0, .inr (.inl (some 0)))]) (st' := []) (M' := M) rfl ⟨c0_0, c1_0, trivial⟩ ?_
      refine am_W_sub [2, 1, 0] rfl ?_
      exact tw_X5_hashText_18 n ((31 * v3) + (M 65 v5)) (v5 + 1) M h
set_option maxRecDepth 20000 in
theorem tm_X5_hashText {a0 : Int} {M : am_M} {Q : Int → am_M → Prop} (h : wp_X5_hashText a0 M Q) : am_CC 1 75 [.inr (.inl (some 0)), .inr (.inr (.inl (a0)))] M (am_QL Q) (fun _ _ => False) := by
  refine ⟨Nat.le_of_ble_eq_true rfl, ?_⟩
  show am_W (am_CC 0) dt_X5_hashText 0 0 none (am_QL Q) (am_qx 75 (fun _ _ => False)) (0, 0, [(0, .inr (.inl (some 0))), (1, .inr (.inr (.inl (a0))))], [], M)
  obtain ⟨c0_0, h⟩ := h
  refine am_Wrun 11 (ps := [am_rg (M 64 1)]) (pc' := 18) (lv' := [(5, .inl (0)), (3, .inr (.inr (.inl ((31 * a0) + (M 64 1))))), (0, .inr (.inl (some 0))), (1, .inr (.inr (.inl (a0))))]) (st' := []) (M' := M) rfl ⟨c0_0, trivial⟩ ?_
  refine am_W_sub [2, 1, 0] rfl ?_
  obtain ⟨n18, h⟩ := h
  exact tw_X5_hashText_18 n18 ((31 * a0) + (M 64 1)) 0 M h
abbrev dt_X5_digest : am_D := (tk_X5_digest, 5, 4, some .long, tb_hn 32)
def wl_X5_digest_81 (Q : Int → am_M → Prop) (X : am_X) : Nat → Int → Int → am_M → Prop
  | 0, _, _, _ => False
  | n + 1, v1, v3, M => (am_rg v3) ∧ (2 < v3 → wp_X5_leastOath 10 M (fun x7 M8 => (am_rg x7) ∧ (wp_X5_cheapest 0 M8 (fun x9 M10 => (am_rg x9) ∧ (wp_X5_cheapest 1 M10 (fun x11 M12 => (am_rg x11) ∧ (wp_X5_area 0 M12 (fun x13 M14 => wp_X5_area 1 M14 (fun x15 M16 => wp_X5_droppedShare M16 (fun x17 M18 => wp_X5_bitsOf x17 M18 (fun x19 M20 => wp_X5_hashText ((31 * ((31 * ((31 * ((31 * ((31 * ((31 * v1) + x7)) + x9)) + x11)) + x13)) + x15)) + x19) M20 (fun x21 M22 => Q x21 M22))))))) X)) X)) X) ∧ (¬ 2 < v3 → wp_X5_ifThinned v3 M (fun x23 M24 => (am_rg x23) ∧ (wl_X5_digest_81 Q X n ((31 * v1) + x23) (v3 + 1) M24)) X)
def wl_X5_digest_33 (Q : Int → am_M → Prop) (X : am_X) : Nat → Int → Int → am_M → Prop
  | 0, _, _, _ => False
  | n + 1, v1, v3, M => (am_rg v3) ∧ (3 ≤ v3 → wp_X5_hashPoints v1 M (fun x1 M2 => wp_X5_hashStretches x1 M2 (fun x3 M4 => wp_X5_hashNotes x3 M4 (fun x5 M6 => ∃ e81, wl_X5_digest_81 Q X e81 x5 0 M6) X) X) X) ∧ (¬ 3 ≤ v3 → (0 ≤ (v3 : Int) ∧ (v3 : Int) < 3) ∧ (am_rg (M 6 v3)) ∧ (wl_X5_digest_33 Q X n ((31 * v1) + (M 6 v3)) (v3 + 1) M))
def wl_X5_digest_6 (Q : Int → am_M → Prop) (X : am_X) : Nat → Int → Int → am_M → Prop
  | 0, _, _, _ => False
  | n + 1, v1, v3, M => (am_rg v3) ∧ (10 < v3 → ∃ e33, wl_X5_digest_33 Q X e33 v1 0 M) ∧ (¬ 10 < v3 → wp_X5_count v3 M (fun x25 M26 => (am_rg x25) ∧ (wl_X5_digest_6 Q X n ((31 * v1) + x25) (v3 + 1) M26)) X)
def wp_X5_digest (M : am_M) (Q : Int → am_M → Prop) (X : am_X) : Prop := ∃ e6, wl_X5_digest_6 Q X e6 2381 0 M
set_option maxRecDepth 20000 in
theorem tw_X5_digest_81 {Q : Int → am_M → Prop} {X : am_X} {QX : am_X} (hX : ∀ E M, X E M → QX E M) : ∀ (n : Nat) (v1 : Int) (v3 : Int) (M : am_M), wl_X5_digest_81 Q X n v1 v3 M → am_W (am_CC 8) dt_X5_digest 8 0 none (am_QL Q) QX (0, 81, [(0, .inr (.inl (some 0))), (1, .inr (.inr (.inl (v1)))), (3, .inl (v3))], [], M)
  | 0, _, _, _, h => h.elim
  | n + 1, v1, v3, M, h => by
    refine am_Wrun 2 (ps := []) (pc' := 83) (lv' := [(0, .inr (.inl (some 0))), (1, .inr (.inr (.inl (v1)))), (3, .inl (v3))]) (st' := [.inl (2), .inl (v3)]) (M' := M) rfl trivial ?_
    obtain ⟨b0, ht, hf⟩ := h
    refine am_Wbr (P := [am_rg v3, am_rg 2]) (c := 2 < v3) (t := 105) (f := 86) (st' := []) rfl rfl ⟨b0, (am_rgd rfl), trivial⟩ rfl (fun q => ?_) (fun q => ?_)
    · have h := ht q
      refine am_Wrun 5 (ps := [-128 ≤ (10 : Int) ∧ (10 : Int) ≤ 127]) (pc' := 113) (lv' := [(0, .inr (.inl (some 0))), (1, .inr (.inr (.inl (v1)))), (3, .inl (v3))]) (st' := [.inl (10), .inr (.inl (some 0)), .inr (.inr (.inl (31 * v1)))]) (M' := M) rfl ⟨⟨by decide, by decide⟩, trivial⟩ ?_
      refine am_WcallV (y := 70) (n := 2) (a := 0) (f := 116) (as := [.inl (10)]) (st' := [.inr (.inr (.inl (31 * v1)))]) rfl rfl rfl rfl rfl rfl rfl rfl rfl rfl (Nat.zero_le _) rfl (am_CC_le (Nat.le_of_ble_eq_true rfl) (tm_X5_leastOath h)) (fun r M8 q => ?_) (fun E M q => hX _ _ q)
      obtain ⟨x7, rfl, h⟩ := q
      obtain ⟨c0_0, h⟩ := h
      refine am_Wrun 8 (ps := [am_rg x7]) (pc' := 126) (lv' := [(1, .inr (.inr (.inl ((31 * v1) + x7)))), (0, .inr (.inl (some 0))), (3, .inl (v3))]) (st' := [.inl (0), .inr (.inl (some 0)), .inr (.inr (.inl (31 * ((31 * v1) + x7))))]) (M' := M8) rfl ⟨c0_0, trivial⟩ ?_
      refine am_WcallV (y := 72) (n := 2) (a := 0) (f := 129) (as := [.inl (0)]) (st' := [.inr (.inr (.inl (31 * ((31 * v1) + x7))))]) rfl rfl rfl rfl rfl rfl rfl rfl rfl rfl (Nat.zero_le _) rfl (am_CC_le (Nat.le_of_ble_eq_true rfl) (tm_X5_cheapest h)) (fun r M10 q => ?_) (fun E M q => hX _ _ q)
      obtain ⟨x9, rfl, h⟩ := q
      obtain ⟨c0_0, h⟩ := h
      refine am_Wrun 8 (ps := [am_rg x9]) (pc' := 139) (lv' := [(1, .inr (.inr (.inl ((31 * ((31 * v1) + x7)) + x9)))), (0, .inr (.inl (some 0))), (3, .inl (v3))]) (st' := [.inl (1), .inr (.inl (some 0)), .inr (.inr (.inl (31 * ((31 * ((31 * v1) + x7)) + x9))))]) (M' := M10) rfl ⟨c0_0, trivial⟩ ?_
      refine am_WcallV (y := 72) (n := 2) (a := 0) (f := 142) (as := [.inl (1)]) (st' := [.inr (.inr (.inl (31 * ((31 * ((31 * v1) + x7)) + x9))))]) rfl rfl rfl rfl rfl rfl rfl rfl rfl rfl (Nat.zero_le _) rfl (am_CC_le (Nat.le_of_ble_eq_true rfl) (tm_X5_cheapest h)) (fun r M12 q => ?_) (fun E M q => hX _ _ q)
      obtain ⟨x11, rfl, h⟩ := q
      obtain ⟨c0_0, h⟩ := h
      refine am_Wrun 8 (ps := [am_rg x11]) (pc' := 152) (lv' := [(1, .inr (.inr (.inl ((31 * ((31 * ((31 * v1) + x7)) + x9)) + x11)))), (0, .inr (.inl (some 0))), (3, .inl (v3))]) (st' := [.inl (0), .inr (.inl (some 0)), .inr (.inr (.inl (31 * ((31 * ((31 * ((31 * v1) + x7)) + x9)) + x11))))]) (M' := M12) rfl ⟨c0_0, trivial⟩ ?_
      refine am_WcallV (y := 29) (n := 2) (a := 0) (f := 155) (as := [.inl (0)]) (st' := [.inr (.inr (.inl (31 * ((31 * ((31 * ((31 * v1) + x7)) + x9)) + x11))))]) rfl rfl rfl rfl rfl rfl rfl rfl rfl rfl (Nat.zero_le _) rfl (am_CC_le (Nat.le_of_ble_eq_true rfl) (tm_X5_area h)) (fun r M14 q => ?_) (fun _ _ q => q.elim)
      obtain ⟨x13, rfl, h⟩ := q
      refine am_Wrun 7 (ps := []) (pc' := 164) (lv' := [(1, .inr (.inr (.inl ((31 * ((31 * ((31 * ((31 * v1) + x7)) + x9)) + x11)) + x13)))), (0, .inr (.inl (some 0))), (3, .inl (v3))]) (st' := [.inl (1), .inr (.inl (some 0)), .inr (.inr (.inl (31 * ((31 * ((31 * ((31 * ((31 * v1) + x7)) + x9)) + x11)) + x13))))]) (M' := M14) rfl trivial ?_
      refine am_WcallV (y := 29) (n := 2) (a := 0) (f := 167) (as := [.inl (1)]) (st' := [.inr (.inr (.inl (31 * ((31 * ((31 * ((31 * ((31 * v1) + x7)) + x9)) + x11)) + x13))))]) rfl rfl rfl rfl rfl rfl rfl rfl rfl rfl (Nat.zero_le _) rfl (am_CC_le (Nat.le_of_ble_eq_true rfl) (tm_X5_area h)) (fun r M16 q => ?_) (fun _ _ q => q.elim)
      obtain ⟨x15, rfl, h⟩ := q
      refine am_Wrun 6 (ps := []) (pc' := 175) (lv' := [(1, .inr (.inr (.inl ((31 * ((31 * ((31 * ((31 * ((31 * v1) + x7)) + x9)) + x11)) + x13)) + x15)))), (0, .inr (.inl (some 0))), (3, .inl (v3))]) (st' := [.inr (.inl (some 0)), .inr (.inr (.inl (31 * ((31 * ((31 * ((31 * ((31 * ((31 * v1) + x7)) + x9)) + x11)) + x13)) + x15))))]) (M' := M16) rfl trivial ?_
      refine am_WcallV (y := 31) (n := 1) (a := 0) (f := 178) (as := []) (st' := [.inr (.inr (.inl (31 * ((31 * ((31 * ((31 * ((31 * ((31 * v1) + x7)) + x9)) + x11)) + x13)) + x15))))]) rfl rfl rfl rfl rfl rfl rfl rfl rfl rfl (Nat.zero_le _) rfl (am_CC_le (Nat.le_of_ble_eq_true rfl) (tm_X5_droppedShare h)) (fun r M18 q => ?_) (fun _ _ q => q.elim)
      obtain ⟨x17, rfl, h⟩ := q
      refine am_WcallS (y := 74) (n := 1) (f := 181) (co := 0) (as := [.inr (.inr (.inr (x17)))]) (st' := [.inr (.inr (.inl (31 * ((31 * ((31 * ((31 * ((31 * ((31 * v1) + x7)) + x9)) + x11)) + x13)) + x15))))]) rfl rfl rfl rfl rfl rfl rfl rfl rfl (Nat.zero_le _) rfl (am_CC_le (Nat.le_of_ble_eq_true rfl) (tm_X5_bitsOf h)) (fun r M20 q => ?_) (fun _ _ q => q.elim)
      obtain ⟨x19, rfl, h⟩ := q
      refine am_Wrun 4 (ps := []) (pc' := 185) (lv' := [(1, .inr (.inr (.inl ((31 * ((31 * ((31 * ((31 * ((31 * ((31 * v1) + x7)) + x9)) + x11)) + x13)) + x15)) + x19)))), (0, .inr (.inl (some 0))), (3, .inl (v3))]) (st' := [.inr (.inr (.inl ((31 * ((31 * ((31 * ((31 * ((31 * ((31 * v1) + x7)) + x9)) + x11)) + x13)) + x15)) + x19))), .inr (.inl (some 0))]) (M' := M20) rfl trivial ?_
      refine am_WcallV (y := 75) (n := 2) (a := 0) (f := 188) (as := [.inr (.inr (.inl ((31 * ((31 * ((31 * ((31 * ((31 * ((31 * v1) + x7)) + x9)) + x11)) + x13)) + x15)) + x19)))]) (st' := []) rfl rfl rfl rfl rfl rfl rfl rfl rfl rfl (Nat.zero_le _) rfl (am_CC_le (Nat.le_of_ble_eq_true rfl) (tm_X5_hashText h)) (fun r M22 q => ?_) (fun _ _ q => q.elim)
      obtain ⟨x21, rfl, h⟩ := q
      exact am_Wretl rfl rfl h
    · have h := hf q
      refine am_Wrun 5 (ps := []) (pc' := 93) (lv' := [(0, .inr (.inl (some 0))), (1, .inr (.inr (.inl (v1)))), (3, .inl (v3))]) (st' := [.inl (v3), .inr (.inl (some 0)), .inr (.inr (.inl (31 * v1)))]) (M' := M) rfl trivial ?_
      refine am_WcallV (y := 63) (n := 2) (a := 0) (f := 96) (as := [.inl (v3)]) (st' := [.inr (.inr (.inl (31 * v1)))]) rfl rfl rfl rfl rfl rfl rfl rfl rfl rfl (Nat.zero_le _) rfl (am_CC_le (Nat.le_of_ble_eq_true rfl) (tm_X5_ifThinned h)) (fun r M24 q => ?_) (fun E M q => hX _ _ q)
      obtain ⟨x23, rfl, h⟩ := q
      obtain ⟨c0_0, h⟩ := h
      refine am_Wrun 5 (ps := [am_rg x23]) (pc' := 81) (lv' := [(3, .inl (v3 + 1)), (1, .inr (.inr (.inl ((31 * v1) + x23)))), (0, .inr (.inl (some 0)))]) (st' := []) (M' := M24) rfl ⟨c0_0, trivial⟩ ?_
      refine am_W_sub [2, 1, 0] rfl ?_
      exact tw_X5_digest_81 hX n ((31 * v1) + x23) (v3 + 1) M24 h
set_option maxRecDepth 20000 in
theorem tw_X5_digest_33 {Q : Int → am_M → Prop} {X : am_X} {QX : am_X} (hX : ∀ E M, X E M → QX E M) : ∀ (n : Nat) (v1 : Int) (v3 : Int) (M : am_M), wl_X5_digest_33 Q X n v1 v3 M → am_W (am_CC 8) dt_X5_digest 8 0 none (am_QL Q) QX (0, 33, [(0, .inr (.inl (some 0))), (1, .inr (.inr (.inl (v1)))), (3, .inl (v3))], [], M)
  | 0, _, _, _, h => h.elim
  | n + 1, v1, v3, M, h => by
    refine am_Wrun 2 (ps := []) (pc' := 35) (lv' := [(0, .inr (.inl (some 0))), (1, .inr (.inr (.inl (v1)))), (3, .inl (v3))]) (st' := [.inl (3), .inl (v3)]) (M' := M) rfl trivial ?_
    obtain ⟨b0, ht, hf⟩ := h
    refine am_Wbr (P := [am_rg v3, am_rg 3]) (c := 3 ≤ v3) (t := 61) (f := 38) (st' := []) rfl rfl ⟨b0, (am_rgd rfl), trivial⟩ rfl (fun q => ?_) (fun q => ?_)
    · have h := ht q
      refine am_Wrun 2 (ps := []) (pc' := 63) (lv' := [(0, .inr (.inl (some 0))), (1, .inr (.inr (.inl (v1)))), (3, .inl (v3))]) (st' := [.inr (.inr (.inl (v1))), .inr (.inl (some 0))]) (M' := M) rfl trivial ?_
      refine am_WcallV (y := 42) (n := 2) (a := 0) (f := 66) (as := [.inr (.inr (.inl (v1)))]) (st' := []) rfl rfl rfl rfl rfl rfl rfl rfl rfl rfl (Nat.zero_le _) rfl (am_CC_le (Nat.le_of_ble_eq_true rfl) (tm_X5_hashPoints h)) (fun r M2 q => ?_) (fun E M q => hX _ _ q)
      obtain ⟨x1, rfl, h⟩ := q
      refine am_Wrun 3 (ps := []) (pc' := 69) (lv' := [(1, .inr (.inr (.inl (x1)))), (0, .inr (.inl (some 0))), (3, .inl (v3))]) (st' := [.inr (.inr (.inl (x1))), .inr (.inl (some 0))]) (M' := M2) rfl trivial ?_
      refine am_WcallV (y := 49) (n := 2) (a := 0) (f := 72) (as := [.inr (.inr (.inl (x1)))]) (st' := []) rfl rfl rfl rfl rfl rfl rfl rfl rfl rfl (Nat.zero_le _) rfl (am_CC_le (Nat.le_of_ble_eq_true rfl) (tm_X5_hashStretches h)) (fun r M4 q => ?_) (fun E M q => hX _ _ q)
      obtain ⟨x3, rfl, h⟩ := q
      refine am_Wrun 3 (ps := []) (pc' := 75) (lv' := [(1, .inr (.inr (.inl (x3)))), (0, .inr (.inl (some 0))), (3, .inl (v3))]) (st' := [.inr (.inr (.inl (x3))), .inr (.inl (some 0))]) (M' := M4) rfl trivial ?_
      refine am_WcallV (y := 61) (n := 2) (a := 0) (f := 78) (as := [.inr (.inr (.inl (x3)))]) (st' := []) rfl rfl rfl rfl rfl rfl rfl rfl rfl rfl (Nat.zero_le _) rfl (am_CC_le (Nat.le_of_ble_eq_true rfl) (tm_X5_hashNotes h)) (fun r M6 q => ?_) (fun E M q => hX _ _ q)
      obtain ⟨x5, rfl, h⟩ := q
      refine am_Wrun 3 (ps := []) (pc' := 81) (lv' := [(3, .inl (0)), (1, .inr (.inr (.inl (x5)))), (0, .inr (.inl (some 0)))]) (st' := []) (M' := M6) rfl trivial ?_
      refine am_W_sub [2, 1, 0] rfl ?_
      obtain ⟨n81, h⟩ := h
      exact tw_X5_digest_81 hX n81 x5 0 M6 h
    · have h := hf q
      obtain ⟨c0_0, c1_0, h⟩ := h
      refine am_Wrun 13 (ps := [0 ≤ (v3 : Int) ∧ (v3 : Int) < 3, am_rg (M 6 v3)]) (pc' := 33) (lv' := [(3, .inl (v3 + 1)), (1, .inr (.inr (.inl ((31 * v1) + (M 6 v3))))), (0, .inr (.inl (some 0)))]) (st' := []) (M' := M) rfl ⟨c0_0, c1_0, trivial⟩ ?_
      refine am_W_sub [2, 1, 0] rfl ?_
      exact tw_X5_digest_33 hX n ((31 * v1) + (M 6 v3)) (v3 + 1) M h
set_option maxRecDepth 20000 in
theorem tw_X5_digest_6 {Q : Int → am_M → Prop} {X : am_X} {QX : am_X} (hX : ∀ E M, X E M → QX E M) : ∀ (n : Nat) (v1 : Int) (v3 : Int) (M : am_M), wl_X5_digest_6 Q X n v1 v3 M → am_W (am_CC 8) dt_X5_digest 8 0 none (am_QL Q) QX (0, 6, [(0, .inr (.inl (some 0))), (1, .inr (.inr (.inl (v1)))), (3, .inl (v3))], [], M)
  | 0, _, _, _, h => h.elim
  | n + 1, v1, v3, M, h => by
    refine am_Wrun 2 (ps := [-128 ≤ (10 : Int) ∧ (10 : Int) ≤ 127]) (pc' := 9) (lv' := [(0, .inr (.inl (some 0))), (1, .inr (.inr (.inl (v1)))), (3, .inl (v3))]) (st' := [.inl (10), .inl (v3)]) (M' := M) rfl ⟨⟨by decide, by decide⟩, trivial⟩ ?_
    obtain ⟨b0, ht, hf⟩ := h
    refine am_Wbr (P := [am_rg v3, am_rg 10]) (c := 10 < v3) (t := 31) (f := 12) (st' := []) rfl rfl ⟨b0, (am_rgd rfl), trivial⟩ rfl (fun q => ?_) (fun q => ?_)
    · have h := ht q
      refine am_Wrun 2 (ps := []) (pc' := 33) (lv' := [(3, .inl (0)), (0, .inr (.inl (some 0))), (1, .inr (.inr (.inl (v1))))]) (st' := []) (M' := M) rfl trivial ?_
      refine am_W_sub [1, 2, 0] rfl ?_
      obtain ⟨n33, h⟩ := h
      exact tw_X5_digest_33 hX n33 v1 0 M h
    · have h := hf q
      refine am_Wrun 5 (ps := []) (pc' := 19) (lv' := [(0, .inr (.inl (some 0))), (1, .inr (.inr (.inl (v1)))), (3, .inl (v3))]) (st' := [.inl (v3), .inr (.inl (some 0)), .inr (.inr (.inl (31 * v1)))]) (M' := M) rfl trivial ?_
      refine am_WcallV (y := 33) (n := 2) (a := 0) (f := 22) (as := [.inl (v3)]) (st' := [.inr (.inr (.inl (31 * v1)))]) rfl rfl rfl rfl rfl rfl rfl rfl rfl rfl (Nat.zero_le _) rfl (am_CC_le (Nat.le_of_ble_eq_true rfl) (tm_X5_count h)) (fun r M26 q => ?_) (fun E M q => hX _ _ q)
      obtain ⟨x25, rfl, h⟩ := q
      obtain ⟨c0_0, h⟩ := h
      refine am_Wrun 5 (ps := [am_rg x25]) (pc' := 6) (lv' := [(3, .inl (v3 + 1)), (1, .inr (.inr (.inl ((31 * v1) + x25)))), (0, .inr (.inl (some 0)))]) (st' := []) (M' := M26) rfl ⟨c0_0, trivial⟩ ?_
      refine am_W_sub [2, 1, 0] rfl ?_
      exact tw_X5_digest_6 hX n ((31 * v1) + x25) (v3 + 1) M26 h
set_option maxRecDepth 20000 in
theorem tm_X5_digest {M : am_M} {Q : Int → am_M → Prop} {X : am_X} (h : wp_X5_digest M Q X) : am_CC 9 32 [.inr (.inl (some 0))] M (am_QL Q) X := by
  refine ⟨Nat.le_of_ble_eq_true rfl, ?_⟩
  show am_W (am_CC 8) dt_X5_digest 8 0 none (am_QL Q) (am_qx 32 X) (0, 0, [(0, .inr (.inl (some 0)))], [], M)
  have hX : ∀ E M, X E M → am_qx 32 X E M := fun E M q => ⟨⟨rfl, by decide⟩, q⟩
  refine am_Wrun 4 (ps := []) (pc' := 6) (lv' := [(3, .inl (0)), (1, .inr (.inr (.inl (2381)))), (0, .inr (.inl (some 0)))]) (st' := []) (M' := M) rfl trivial ?_
  refine am_W_sub [2, 1, 0] rfl ?_
  obtain ⟨n6, h⟩ := h
  exact tw_X5_digest_6 hX n6 2381 0 M h
abbrev dt_Jxe99ae_isNaN_b9ae7 : am_D := (tk_Jxe99ae_isNaN_b9ae7, 8, 2, some .boolean, tb_hn 198)
def wp_Jxe99ae_isNaN_b9ae7 (a0 : UInt64) (M : am_M) (Q : Int → am_M → Prop) : Prop := (am_rg ((Op.cmpValue (FP.dcmp a0 a0) .l).toInt)) ∧ (((Op.cmpValue (FP.dcmp a0 a0) .l).toInt) = 0 → Q 0 M) ∧ (¬ ((Op.cmpValue (FP.dcmp a0 a0) .l).toInt) = 0 → Q 1 M)
set_option maxRecDepth 20000 in
theorem tm_Jxe99ae_isNaN_b9ae7 {a0 : UInt64} {M : am_M} {Q : Int → am_M → Prop} (h : wp_Jxe99ae_isNaN_b9ae7 a0 M Q) : am_CC 1 198 [.inr (.inr (.inr (a0)))] M (am_QI Q) (fun _ _ => False) := by
  refine ⟨Nat.le_of_ble_eq_true rfl, ?_⟩
  show am_W (am_CC 0) dt_Jxe99ae_isNaN_b9ae7 0 0 none (am_QI Q) (am_qx 198 (fun _ _ => False)) (0, 0, [(0, .inr (.inr (.inr (a0))))], [], M)
  refine am_Wrun 3 (ps := []) (pc' := 3) (lv' := [(0, .inr (.inr (.inr (a0))))]) (st' := [.inl ((Op.cmpValue (FP.dcmp a0 a0) .l).toInt)]) (M' := M) rfl trivial ?_
  obtain ⟨b0, ht, hf⟩ := h
  refine am_Wbr (P := [am_rg ((Op.cmpValue (FP.dcmp a0 a0) .l).toInt)]) (c := ((Op.cmpValue (FP.dcmp a0 a0) .l).toInt) = 0) (t := 10) (f := 6) (st' := []) rfl rfl ⟨b0, trivial⟩ rfl (fun q => ?_) (fun q => ?_)
  · have h := ht q
    refine am_Wrun 1 (ps := []) (pc' := 11) (lv' := [(0, .inr (.inr (.inr (a0))))]) (st' := [.inl (0)]) (M' := M) rfl trivial ?_
    exact am_Wretz rfl rfl (Or.inl rfl) h
  · have h := hf q
    refine am_Wrun 2 (ps := []) (pc' := 11) (lv' := [(0, .inr (.inr (.inr (a0))))]) (st' := [.inl (1)]) (M' := M) rfl trivial ?_
    exact am_Wretz rfl rfl (Or.inr rfl) h
abbrev dt_Jxe99ae_doubleToLongBits_ccdee : am_D := (tk_Jxe99ae_doubleToLongBits_ccdee, 8, 2, some .long, tb_hn 197)
def wp_Jxe99ae_doubleToLongBits_ccdee (a0 : UInt64) (M : am_M) (Q : Int → am_M → Prop) : Prop := wp_Jxe99ae_isNaN_b9ae7 a0 M (fun x1 M2 => (am_rg x1) ∧ (¬ x1 = 0 → Q 9221120237041090560 M2) ∧ (¬ (¬ x1 = 0) → Q ((a0).toInt64.toInt) M2))
set_option maxRecDepth 20000 in
theorem tm_Jxe99ae_doubleToLongBits_ccdee {a0 : UInt64} {M : am_M} {Q : Int → am_M → Prop} (h : wp_Jxe99ae_doubleToLongBits_ccdee a0 M Q) : am_CC 2 197 [.inr (.inr (.inr (a0)))] M (am_QL Q) (fun _ _ => False) := by
  refine ⟨Nat.le_of_ble_eq_true rfl, ?_⟩
  show am_W (am_CC 1) dt_Jxe99ae_doubleToLongBits_ccdee 1 0 none (am_QL Q) (am_qx 197 (fun _ _ => False)) (0, 0, [(0, .inr (.inr (.inr (a0))))], [], M)
  refine am_Wrun 1 (ps := []) (pc' := 1) (lv' := [(0, .inr (.inr (.inr (a0))))]) (st' := [.inr (.inr (.inr (a0)))]) (M' := M) rfl trivial ?_
  refine am_WcallS (y := 198) (n := 1) (f := 4) (co := 0) (as := [.inr (.inr (.inr (a0)))]) (st' := []) rfl rfl rfl rfl rfl rfl rfl rfl rfl (Nat.zero_le _) rfl (am_CC_le (Nat.le_of_ble_eq_true rfl) (tm_Jxe99ae_isNaN_b9ae7 h)) (fun r M2 q => ?_) (fun _ _ q => q.elim)
  obtain ⟨x1, rfl, h⟩ := q
  obtain ⟨b0, ht, hf⟩ := h
  refine am_Wbr (P := [am_rg x1]) (c := ¬ x1 = 0) (t := 12) (f := 7) (st' := []) rfl rfl ⟨b0, trivial⟩ rfl (fun q => ?_) (fun q => ?_)
  · have h := ht q
    refine am_Wrun 1 (ps := []) (pc' := 15) (lv' := [(0, .inr (.inr (.inr (a0))))]) (st' := [.inr (.inr (.inl (9221120237041090560)))]) (M' := M2) rfl trivial ?_
    exact am_Wretl rfl rfl h
  · have h := hf q
    refine am_Wrun 2 (ps := [am_cs [] ≤ 8]) (pc' := 11) (lv' := [(0, .inr (.inr (.inr (a0))))]) (st' := [.inr (.inr (.inl ((a0).toInt64.toInt)))]) (M' := M2) rfl ⟨(by decide), trivial⟩ ?_
    exact am_Wretl rfl rfl h
abbrev dt_X6_digest : am_D := (tk_X6_digest, 6, 5, some .long, tb_hn 196)
def wl_X6_digest_328 (Q : Int → am_M → Prop) : Nat → Int → Int → am_M → Prop
  | 0, _, _, _ => False
  | n + 1, v1, v3, M => (am_rg v3) ∧ (am_rg (M 69 4)) ∧ ((M 69 4) ≤ v3 → Q v1 M) ∧ (¬ (M 69 4) ≤ v3 → (0 ≤ (v3 : Int) ∧ (v3 : Int) < 60) ∧ (am_rg (M 72 v3)) ∧ (wl_X6_digest_328 Q n ((31 * v1) + (M 72 v3)) (v3 + 1) M))
def wl_X6_digest_216 (Q : Int → am_M → Prop) : Nat → Int → Int → am_M → Prop
  | 0, _, _, _ => False
  | n + 1, v1, v3, M => (am_rg v3) ∧ (3 ≤ v3 → wp_X6_oathFor 10 M (fun x3 M4 => (am_rg x3) ∧ (wp_X6_missedLeast 0 M4 (fun x5 M6 => (am_rg x5) ∧ (wp_X6_missedLeast 1 M6 (fun x7 M8 => (am_rg x7) ∧ (wp_X6_area 0 M8 (fun x9 M10 => wp_X6_area 1 M10 (fun x11 M12 => wp_X6_share M12 (fun x13 M14 => wp_Jxe99ae_doubleToLongBits_ccdee x13 M14 (fun x15 M16 => (am_rg (M16 69 4)) ∧ (∃ e328, wl_X6_digest_328 Q e328 ((31 * ((31 * ((31 * ((31 * ((31 * ((31 * ((31 * v1) + x3)) + x5)) + x7)) + x9)) + x11)) + x15)) + (M16 69 4)) 0 M16)))))))))))) ∧ (¬ 3 ≤ v3 → wp_X6_choose v3 M (fun x17 M18 => (am_rg x17) ∧ (wl_X6_digest_216 Q n ((31 * v1) + x17) (v3 + 1) M18)))
def wl_X6_digest_178 (Q : Int → am_M → Prop) : Nat → Int → Int → am_M → Prop
  | 0, _, _, _ => False
  | n + 1, v1, v3, M => (am_rg v3) ∧ (am_rg (3 * (M 70 1))) ∧ ((3 * (M 70 1)) ≤ v3 → ∃ e216, wl_X6_digest_216 Q e216 v1 0 M) ∧ (¬ (3 * (M 70 1)) ≤ v3 → (am_rg v3 ∧ am_rg 3 ∧ (0 : Int) < 3) ∧ (am_rg v3 ∧ am_rg 3 ∧ (0 : Int) < 3) ∧ (wp_X6_aboutNote (Int.tdiv v3 3) (Int.tmod v3 3) M (fun x19 M20 => (am_rg x19) ∧ (wl_X6_digest_178 Q n ((31 * v1) + x19) (v3 + 1) M20))))
def wl_X6_digest_142 (Q : Int → am_M → Prop) : Nat → Int → Int → am_M → Prop
  | 0, _, _, _ => False
  | n + 1, v1, v3, M => wp_X6_stretches M (fun x1 M2 => (am_rg v3) ∧ (am_rg (5 * x1)) ∧ ((5 * x1) ≤ v3 → ∃ e178, wl_X6_digest_178 Q e178 v1 0 M2) ∧ (¬ (5 * x1) ≤ v3 → (am_rg v3 ∧ am_rg 5 ∧ (0 : Int) < 5) ∧ (am_rg v3 ∧ am_rg 5 ∧ (0 : Int) < 5) ∧ (wp_X6_aboutStretch (Int.tdiv v3 5) (Int.tmod v3 5) M2 (fun x21 M22 => (am_rg x21) ∧ (wl_X6_digest_142 Q n ((31 * v1) + x21) (v3 + 1) M22)))))
def wl_X6_digest_80 (Q : Int → am_M → Prop) (k67 : Int → Int → am_M → Prop) : Nat → Int → Int → Int → am_M → Prop
  | 0, _, _, _, _ => False
  | n + 1, v1, v3, v4, M => (am_rg v4) ∧ (8 ≤ v4 → wp_X6_errorOf v3 0 M (fun x23 M24 => (am_rg x23) ∧ (wp_X6_errorOf v3 1 M24 (fun x25 M26 => (am_rg x25) ∧ (k67 ((31 * ((31 * v1) + x23)) + x25) (v3 + 1) M26))))) ∧ (¬ 8 ≤ v4 → wp_X6_aboutPoint v3 v4 M (fun x27 M28 => (am_rg x27) ∧ (wl_X6_digest_80 Q k67 n ((31 * v1) + x27) v3 (v4 + 1) M28)))
def wl_X6_digest_67 (Q : Int → am_M → Prop) : Nat → Int → Int → am_M → Prop
  | 0, _, _, _ => False
  | n + 1, v1, v3, M => (am_rg v3) ∧ (am_rg (M 70 0)) ∧ ((M 70 0) ≤ v3 → ∃ e142, wl_X6_digest_142 Q e142 v1 0 M) ∧ (¬ (M 70 0) ≤ v3 → ∃ e80, wl_X6_digest_80 Q (wl_X6_digest_67 Q n) e80 v1 v3 0 M)
def wl_X6_digest_38 (Q : Int → am_M → Prop) : Nat → Int → Int → am_M → Prop
  | 0, _, _, _ => False
  | n + 1, v1, v3, M => (am_rg v3) ∧ (3 ≤ v3 → ∃ e67, wl_X6_digest_67 Q e67 v1 0 M) ∧ (¬ 3 ≤ v3 → (0 ≤ (4 + v3 : Int) ∧ (4 + v3 : Int) < 203) ∧ (am_rg (M 70 (4 + v3))) ∧ (wl_X6_digest_38 Q n ((31 * v1) + (M 70 (4 + v3))) (v3 + 1) M))
def wl_X6_digest_11 (Q : Int → am_M → Prop) : Nat → Int → Int → am_M → Prop
  | 0, _, _, _ => False
  | n + 1, v1, v3, M => (am_rg v3) ∧ (11 ≤ v3 → ∃ e38, wl_X6_digest_38 Q e38 v1 0 M) ∧ (¬ 11 ≤ v3 → wp_X6_number v3 M (fun x29 M30 => (am_rg x29) ∧ (wl_X6_digest_11 Q n ((31 * v1) + x29) (v3 + 1) M30)))
def wp_X6_digest (M : am_M) (Q : Int → am_M → Prop) : Prop := ∃ e11, wl_X6_digest_11 Q e11 2381 0 (am_up M 69 5 0)
set_option maxRecDepth 20000 in
theorem tw_X6_digest_328 {Q : Int → am_M → Prop} {QX : am_X} : ∀ (n : Nat) (v1 : Int) (v3 : Int) (M : am_M), wl_X6_digest_328 Q n v1 v3 M → am_W (am_CC 9) dt_X6_digest 9 0 none (am_QL Q) QX (0, 328, [(0, .inr (.inl (some 69))), (1, .inr (.inr (.inl (v1)))), (3, .inl (v3))], [], M)
  | 0, _, _, _, h => h.elim
  | n + 1, v1, v3, M, h => by
    refine am_Wrun 3 (ps := []) (pc' := 333) (lv' := [(0, .inr (.inl (some 69))), (1, .inr (.inr (.inl (v1)))), (3, .inl (v3))]) (st' := [.inl (M 69 4), .inl (v3)]) (M' := M) rfl trivial ?_
    obtain ⟨b0, b1, ht, hf⟩ := h
    refine am_Wbr (P := [am_rg v3, am_rg (M 69 4)]) (c := (M 69 4) ≤ v3) (t := 356) (f := 336) (st' := []) rfl rfl ⟨b0, b1, trivial⟩ rfl (fun q => ?_) (fun q => ?_)
    · have h := ht q
      refine am_Wrun 1 (ps := []) (pc' := 357) (lv' := [(0, .inr (.inl (some 69))), (1, .inr (.inr (.inl (v1)))), (3, .inl (v3))]) (st' := [.inr (.inr (.inl (v1)))]) (M' := M) rfl trivial ?_
      exact am_Wretl rfl rfl h
    · have h := hf q
      obtain ⟨c0_0, c1_0, h⟩ := h
      refine am_Wrun 12 (ps := [0 ≤ (v3 : Int) ∧ (v3 : Int) < 60, am_rg (M 72 v3)]) (pc' := 328) (lv' := [(3, .inl (v3 + 1)), (1, .inr (.inr (.inl ((31 * v1) + (M 72 v3))))), (0, .inr (.inl (some 69)))]) (st' := []) (M' := M) rfl ⟨c0_0, c1_0, trivial⟩ ?_
      refine am_W_sub [2, 1, 0] rfl ?_
      exact tw_X6_digest_328 n ((31 * v1) + (M 72 v3)) (v3 + 1) M h
set_option maxRecDepth 20000 in
theorem tw_X6_digest_216 {Q : Int → am_M → Prop} {QX : am_X} : ∀ (n : Nat) (v1 : Int) (v3 : Int) (M : am_M), wl_X6_digest_216 Q n v1 v3 M → am_W (am_CC 9) dt_X6_digest 9 0 none (am_QL Q) QX (0, 216, [(0, .inr (.inl (some 69))), (1, .inr (.inr (.inl (v1)))), (3, .inl (v3))], [], M)
  | 0, _, _, _, h => h.elim
  | n + 1, v1, v3, M, h => by
    refine am_Wrun 2 (ps := []) (pc' := 218) (lv' := [(0, .inr (.inl (some 69))), (1, .inr (.inr (.inl (v1)))), (3, .inl (v3))]) (st' := [.inl (3), .inl (v3)]) (M' := M) rfl trivial ?_
    obtain ⟨b0, ht, hf⟩ := h
    refine am_Wbr (P := [am_rg v3, am_rg 3]) (c := 3 ≤ v3) (t := 240) (f := 221) (st' := []) rfl rfl ⟨b0, (am_rgd rfl), trivial⟩ rfl (fun q => ?_) (fun q => ?_)
    · have h := ht q
      refine am_Wrun 5 (ps := [-128 ≤ (10 : Int) ∧ (10 : Int) ≤ 127]) (pc' := 248) (lv' := [(0, .inr (.inl (some 69))), (1, .inr (.inr (.inl (v1)))), (3, .inl (v3))]) (st' := [.inl (10), .inr (.inl (some 69)), .inr (.inr (.inl (31 * v1)))]) (M' := M) rfl ⟨⟨by decide, by decide⟩, trivial⟩ ?_
      refine am_WcallV (y := 190) (n := 2) (a := 69) (f := 251) (as := [.inl (10)]) (st' := [.inr (.inr (.inl (31 * v1)))]) rfl rfl rfl rfl rfl rfl rfl rfl rfl rfl (Nat.zero_le _) rfl (am_CC_le (Nat.le_of_ble_eq_true rfl) (tm_X6_oathFor h)) (fun r M4 q => ?_) (fun _ _ q => q.elim)
      obtain ⟨x3, rfl, h⟩ := q
      obtain ⟨c0_0, h⟩ := h
      refine am_Wrun 9 (ps := [am_rg x3]) (pc' := 264) (lv' := [(1, .inr (.inr (.inl ((31 * v1) + x3)))), (0, .inr (.inl (some 69))), (3, .inl (v3))]) (st' := [.inl (0), .inr (.inl (some 69)), .inr (.inr (.inl (31 * ((31 * v1) + x3)))), .inr (.inr (.inl (31)))]) (M' := M4) rfl ⟨c0_0, trivial⟩ ?_
      refine am_WcallV (y := 193) (n := 2) (a := 69) (f := 267) (as := [.inl (0)]) (st' := [.inr (.inr (.inl (31 * ((31 * v1) + x3)))), .inr (.inr (.inl (31)))]) rfl rfl rfl rfl rfl rfl rfl rfl rfl rfl (Nat.zero_le _) rfl (am_CC_le (Nat.le_of_ble_eq_true rfl) (tm_X6_missedLeast h)) (fun r M6 q => ?_) (fun _ _ q => q.elim)
      obtain ⟨x5, rfl, h⟩ := q
      obtain ⟨c0_0, h⟩ := h
      refine am_Wrun 5 (ps := [am_rg x5]) (pc' := 272) (lv' := [(1, .inr (.inr (.inl ((31 * v1) + x3)))), (0, .inr (.inl (some 69))), (3, .inl (v3))]) (st' := [.inl (1), .inr (.inl (some 69)), .inr (.inr (.inl (31 * ((31 * ((31 * v1) + x3)) + x5))))]) (M' := M6) rfl ⟨c0_0, trivial⟩ ?_
      refine am_WcallV (y := 193) (n := 2) (a := 69) (f := 275) (as := [.inl (1)]) (st' := [.inr (.inr (.inl (31 * ((31 * ((31 * v1) + x3)) + x5))))]) rfl rfl rfl rfl rfl rfl rfl rfl rfl rfl (Nat.zero_le _) rfl (am_CC_le (Nat.le_of_ble_eq_true rfl) (tm_X6_missedLeast h)) (fun r M8 q => ?_) (fun _ _ q => q.elim)
      obtain ⟨x7, rfl, h⟩ := q
      obtain ⟨c0_0, h⟩ := h
      refine am_Wrun 9 (ps := [am_rg x7]) (pc' := 288) (lv' := [(1, .inr (.inr (.inl ((31 * ((31 * ((31 * v1) + x3)) + x5)) + x7)))), (0, .inr (.inl (some 69))), (3, .inl (v3))]) (st' := [.inl (0), .inr (.inl (some 69)), .inr (.inr (.inl (31 * ((31 * ((31 * ((31 * v1) + x3)) + x5)) + x7)))), .inr (.inr (.inl (31)))]) (M' := M8) rfl ⟨c0_0, trivial⟩ ?_
      refine am_WcallV (y := 185) (n := 2) (a := 69) (f := 291) (as := [.inl (0)]) (st' := [.inr (.inr (.inl (31 * ((31 * ((31 * ((31 * v1) + x3)) + x5)) + x7)))), .inr (.inr (.inl (31)))]) rfl rfl rfl rfl rfl rfl rfl rfl rfl rfl (Nat.zero_le _) rfl (am_CC_le (Nat.le_of_ble_eq_true rfl) (tm_X6_area h)) (fun r M10 q => ?_) (fun _ _ q => q.elim)
      obtain ⟨x9, rfl, h⟩ := q
      refine am_Wrun 4 (ps := []) (pc' := 295) (lv' := [(1, .inr (.inr (.inl ((31 * ((31 * ((31 * v1) + x3)) + x5)) + x7)))), (0, .inr (.inl (some 69))), (3, .inl (v3))]) (st' := [.inl (1), .inr (.inl (some 69)), .inr (.inr (.inl (31 * ((31 * ((31 * ((31 * ((31 * v1) + x3)) + x5)) + x7)) + x9))))]) (M' := M10) rfl trivial ?_
      refine am_WcallV (y := 185) (n := 2) (a := 69) (f := 298) (as := [.inl (1)]) (st' := [.inr (.inr (.inl (31 * ((31 * ((31 * ((31 * ((31 * v1) + x3)) + x5)) + x7)) + x9))))]) rfl rfl rfl rfl rfl rfl rfl rfl rfl rfl (Nat.zero_le _) rfl (am_CC_le (Nat.le_of_ble_eq_true rfl) (tm_X6_area h)) (fun r M12 q => ?_) (fun _ _ q => q.elim)
      obtain ⟨x11, rfl, h⟩ := q
      refine am_Wrun 6 (ps := []) (pc' := 306) (lv' := [(1, .inr (.inr (.inl ((31 * ((31 * ((31 * ((31 * ((31 * v1) + x3)) + x5)) + x7)) + x9)) + x11)))), (0, .inr (.inl (some 69))), (3, .inl (v3))]) (st' := [.inr (.inl (some 69)), .inr (.inr (.inl (31 * ((31 * ((31 * ((31 * ((31 * ((31 * v1) + x3)) + x5)) + x7)) + x9)) + x11))))]) (M' := M12) rfl trivial ?_
      refine am_WcallV (y := 195) (n := 1) (a := 69) (f := 309) (as := []) (st' := [.inr (.inr (.inl (31 * ((31 * ((31 * ((31 * ((31 * ((31 * v1) + x3)) + x5)) + x7)) + x9)) + x11))))]) rfl rfl rfl rfl rfl rfl rfl rfl rfl rfl (Nat.zero_le _) rfl (am_CC_le (Nat.le_of_ble_eq_true rfl) (tm_X6_share h)) (fun r M14 q => ?_) (fun _ _ q => q.elim)
      obtain ⟨x13, rfl, h⟩ := q
      refine am_WcallS (y := 197) (n := 1) (f := 312) (co := 0) (as := [.inr (.inr (.inr (x13)))]) (st' := [.inr (.inr (.inl (31 * ((31 * ((31 * ((31 * ((31 * ((31 * v1) + x3)) + x5)) + x7)) + x9)) + x11))))]) rfl rfl rfl rfl rfl rfl rfl rfl rfl (Nat.zero_le _) rfl (am_CC_le (Nat.le_of_ble_eq_true rfl) (tm_Jxe99ae_doubleToLongBits_ccdee h)) (fun r M16 q => ?_) (fun _ _ q => q.elim)
      obtain ⟨x15, rfl, h⟩ := q
      obtain ⟨c0_0, h⟩ := h
      refine am_Wrun 12 (ps := [am_rg (M16 69 4)]) (pc' := 328) (lv' := [(3, .inl (0)), (1, .inr (.inr (.inl ((31 * ((31 * ((31 * ((31 * ((31 * ((31 * ((31 * v1) + x3)) + x5)) + x7)) + x9)) + x11)) + x15)) + (M16 69 4))))), (0, .inr (.inl (some 69)))]) (st' := []) (M' := M16) rfl ⟨c0_0, trivial⟩ ?_
      refine am_W_sub [2, 1, 0] rfl ?_
      obtain ⟨n328, h⟩ := h
      exact tw_X6_digest_328 n328 ((31 * ((31 * ((31 * ((31 * ((31 * ((31 * ((31 * v1) + x3)) + x5)) + x7)) + x9)) + x11)) + x15)) + (M16 69 4)) 0 M16 h
    · have h := hf q
      refine am_Wrun 5 (ps := []) (pc' := 228) (lv' := [(0, .inr (.inl (some 69))), (1, .inr (.inr (.inl (v1)))), (3, .inl (v3))]) (st' := [.inl (v3), .inr (.inl (some 69)), .inr (.inr (.inl (31 * v1)))]) (M' := M) rfl trivial ?_
      refine am_WcallV (y := 144) (n := 2) (a := 69) (f := 231) (as := [.inl (v3)]) (st' := [.inr (.inr (.inl (31 * v1)))]) rfl rfl rfl rfl rfl rfl rfl rfl rfl rfl (Nat.zero_le _) rfl (am_CC_le (Nat.le_of_ble_eq_true rfl) (tm_X6_choose h)) (fun r M18 q => ?_) (fun _ _ q => q.elim)
      obtain ⟨x17, rfl, h⟩ := q
      obtain ⟨c0_0, h⟩ := h
      refine am_Wrun 5 (ps := [am_rg x17]) (pc' := 216) (lv' := [(3, .inl (v3 + 1)), (1, .inr (.inr (.inl ((31 * v1) + x17)))), (0, .inr (.inl (some 69)))]) (st' := []) (M' := M18) rfl ⟨c0_0, trivial⟩ ?_
      refine am_W_sub [2, 1, 0] rfl ?_
      exact tw_X6_digest_216 n ((31 * v1) + x17) (v3 + 1) M18 h
set_option maxRecDepth 20000 in
theorem tw_X6_digest_178 {Q : Int → am_M → Prop} {QX : am_X} : ∀ (n : Nat) (v1 : Int) (v3 : Int) (M : am_M), wl_X6_digest_178 Q n v1 v3 M → am_W (am_CC 9) dt_X6_digest 9 0 none (am_QL Q) QX (0, 178, [(0, .inr (.inl (some 69))), (1, .inr (.inr (.inl (v1)))), (3, .inl (v3))], [], M)
  | 0, _, _, _, h => h.elim
  | n + 1, v1, v3, M, h => by
    refine am_Wrun 7 (ps := [0 ≤ (1 : Int) ∧ (1 : Int) < 203]) (pc' := 187) (lv' := [(0, .inr (.inl (some 69))), (1, .inr (.inr (.inl (v1)))), (3, .inl (v3))]) (st' := [.inl (3 * (M 70 1)), .inl (v3)]) (M' := M) rfl ⟨⟨by decide, by decide⟩, trivial⟩ ?_
    obtain ⟨b0, b1, ht, hf⟩ := h
    refine am_Wbr (P := [am_rg v3, am_rg (3 * (M 70 1))]) (c := (3 * (M 70 1)) ≤ v3) (t := 214) (f := 190) (st' := []) rfl rfl ⟨b0, b1, trivial⟩ rfl (fun q => ?_) (fun q => ?_)
    · have h := ht q
      refine am_Wrun 2 (ps := []) (pc' := 216) (lv' := [(3, .inl (0)), (0, .inr (.inl (some 69))), (1, .inr (.inr (.inl (v1))))]) (st' := []) (M' := M) rfl trivial ?_
      refine am_W_sub [1, 2, 0] rfl ?_
      obtain ⟨n216, h⟩ := h
      exact tw_X6_digest_216 n216 v1 0 M h
    · have h := hf q
      obtain ⟨c0_0, c1_0, h⟩ := h
      refine am_Wrun 10 (ps := [am_rg v3 ∧ am_rg 3 ∧ (0 : Int) < 3, am_rg v3 ∧ am_rg 3 ∧ (0 : Int) < 3]) (pc' := 202) (lv' := [(0, .inr (.inl (some 69))), (1, .inr (.inr (.inl (v1)))), (3, .inl (v3))]) (st' := [.inl (Int.tmod v3 3), .inl (Int.tdiv v3 3), .inr (.inl (some 69)), .inr (.inr (.inl (31 * v1)))]) (M' := M) rfl ⟨c0_0, c1_0, trivial⟩ ?_
      refine am_WcallV (y := 177) (n := 3) (a := 69) (f := 205) (as := [.inl (Int.tdiv v3 3), .inl (Int.tmod v3 3)]) (st' := [.inr (.inr (.inl (31 * v1)))]) rfl rfl rfl rfl rfl rfl rfl rfl rfl rfl (Nat.zero_le _) rfl (am_CC_le (Nat.le_of_ble_eq_true rfl) (tm_X6_aboutNote h)) (fun r M20 q => ?_) (fun _ _ q => q.elim)
      obtain ⟨x19, rfl, h⟩ := q
      obtain ⟨c0_0, h⟩ := h
      refine am_Wrun 5 (ps := [am_rg x19]) (pc' := 178) (lv' := [(3, .inl (v3 + 1)), (1, .inr (.inr (.inl ((31 * v1) + x19)))), (0, .inr (.inl (some 69)))]) (st' := []) (M' := M20) rfl ⟨c0_0, trivial⟩ ?_
      refine am_W_sub [2, 1, 0] rfl ?_
      exact tw_X6_digest_178 n ((31 * v1) + x19) (v3 + 1) M20 h
set_option maxRecDepth 20000 in
theorem tw_X6_digest_142 {Q : Int → am_M → Prop} {QX : am_X} : ∀ (n : Nat) (v1 : Int) (v3 : Int) (M : am_M), wl_X6_digest_142 Q n v1 v3 M → am_W (am_CC 9) dt_X6_digest 9 0 none (am_QL Q) QX (0, 142, [(0, .inr (.inl (some 69))), (1, .inr (.inr (.inl (v1)))), (3, .inl (v3))], [], M)
  | 0, _, _, _, h => h.elim
  | n + 1, v1, v3, M, h => by
    refine am_Wrun 3 (ps := []) (pc' := 145) (lv' := [(0, .inr (.inl (some 69))), (1, .inr (.inr (.inl (v1)))), (3, .inl (v3))]) (st' := [.inr (.inl (some 69)), .inl (5), .inl (v3)]) (M' := M) rfl trivial ?_
    refine am_WcallV (y := 151) (n := 1) (a := 69) (f := 148) (as := []) (st' := [.inl (5), .inl (v3)]) rfl rfl rfl rfl rfl rfl rfl rfl rfl rfl (Nat.zero_le _) rfl (am_CC_le (Nat.le_of_ble_eq_true rfl) (tm_X6_stretches h)) (fun r M2 q => ?_) (fun _ _ q => q.elim)
    obtain ⟨x1, rfl, h⟩ := q
    refine am_Wrun 1 (ps := []) (pc' := 149) (lv' := [(0, .inr (.inl (some 69))), (1, .inr (.inr (.inl (v1)))), (3, .inl (v3))]) (st' := [.inl (5 * x1), .inl (v3)]) (M' := M2) rfl trivial ?_
    obtain ⟨b0, b1, ht, hf⟩ := h
    refine am_Wbr (P := [am_rg v3, am_rg (5 * x1)]) (c := (5 * x1) ≤ v3) (t := 176) (f := 152) (st' := []) rfl rfl ⟨b0, b1, trivial⟩ rfl (fun q => ?_) (fun q => ?_)
    · have h := ht q
      refine am_Wrun 2 (ps := []) (pc' := 178) (lv' := [(3, .inl (0)), (0, .inr (.inl (some 69))), (1, .inr (.inr (.inl (v1))))]) (st' := []) (M' := M2) rfl trivial ?_
      refine am_W_sub [1, 2, 0] rfl ?_
      obtain ⟨n178, h⟩ := h
      exact tw_X6_digest_178 n178 v1 0 M2 h
    · have h := hf q
      obtain ⟨c0_0, c1_0, h⟩ := h
      refine am_Wrun 10 (ps := [am_rg v3 ∧ am_rg 5 ∧ (0 : Int) < 5, am_rg v3 ∧ am_rg 5 ∧ (0 : Int) < 5]) (pc' := 164) (lv' := [(0, .inr (.inl (some 69))), (1, .inr (.inr (.inl (v1)))), (3, .inl (v3))]) (st' := [.inl (Int.tmod v3 5), .inl (Int.tdiv v3 5), .inr (.inl (some 69)), .inr (.inr (.inl (31 * v1)))]) (M' := M2) rfl ⟨c0_0, c1_0, trivial⟩ ?_
      refine am_WcallV (y := 175) (n := 3) (a := 69) (f := 167) (as := [.inl (Int.tdiv v3 5), .inl (Int.tmod v3 5)]) (st' := [.inr (.inr (.inl (31 * v1)))]) rfl rfl rfl rfl rfl rfl rfl rfl rfl rfl (Nat.zero_le _) rfl (am_CC_le (Nat.le_of_ble_eq_true rfl) (tm_X6_aboutStretch h)) (fun r M22 q => ?_) (fun _ _ q => q.elim)
      obtain ⟨x21, rfl, h⟩ := q
      obtain ⟨c0_0, h⟩ := h
      refine am_Wrun 5 (ps := [am_rg x21]) (pc' := 142) (lv' := [(3, .inl (v3 + 1)), (1, .inr (.inr (.inl ((31 * v1) + x21)))), (0, .inr (.inl (some 69)))]) (st' := []) (M' := M22) rfl ⟨c0_0, trivial⟩ ?_
      refine am_W_sub [2, 1, 0] rfl ?_
      exact tw_X6_digest_142 n ((31 * v1) + x21) (v3 + 1) M22 h
set_option maxRecDepth 20000 in
theorem tw_X6_digest_80 {Q : Int → am_M → Prop} {QX : am_X} {k67 : Int → Int → am_M → Prop} (hk67 : ∀ (v1 : Int) (v3 : Int) (M : am_M), k67 v1 v3 M → am_W (am_CC 9) dt_X6_digest 9 0 none (am_QL Q) QX (0, 67, [(0, .inr (.inl (some 69))), (1, .inr (.inr (.inl (v1)))), (3, .inl (v3))], [], M)) : ∀ (n : Nat) (v1 : Int) (v3 : Int) (v4 : Int) (M : am_M), wl_X6_digest_80 Q k67 n v1 v3 v4 M → am_W (am_CC 9) dt_X6_digest 9 0 none (am_QL Q) QX (0, 80, [(0, .inr (.inl (some 69))), (1, .inr (.inr (.inl (v1)))), (3, .inl (v3)), (4, .inl (v4))], [], M)
  | 0, _, _, _, _, h => h.elim
  | n + 1, v1, v3, v4, M, h => by
    refine am_Wrun 2 (ps := [-128 ≤ (8 : Int) ∧ (8 : Int) ≤ 127]) (pc' := 84) (lv' := [(0, .inr (.inl (some 69))), (1, .inr (.inr (.inl (v1)))), (3, .inl (v3)), (4, .inl (v4))]) (st' := [.inl (8), .inl (v4)]) (M' := M) rfl ⟨⟨by decide, by decide⟩, trivial⟩ ?_
    obtain ⟨b0, ht, hf⟩ := h
    refine am_Wbr (P := [am_rg v4, am_rg 8]) (c := 8 ≤ v4) (t := 108) (f := 87) (st' := []) rfl rfl ⟨b0, (am_rgd rfl), trivial⟩ rfl (fun q => ?_) (fun q => ?_)
    · have h := ht q
      refine am_Wrun 7 (ps := []) (pc' := 119) (lv' := [(0, .inr (.inl (some 69))), (1, .inr (.inr (.inl (v1)))), (3, .inl (v3)), (4, .inl (v4))]) (st' := [.inl (0), .inl (v3), .inr (.inl (some 69)), .inr (.inr (.inl (31 * v1))), .inr (.inr (.inl (31)))]) (M' := M) rfl trivial ?_
      refine am_WcallV (y := 170) (n := 3) (a := 69) (f := 122) (as := [.inl (v3), .inl (0)]) (st' := [.inr (.inr (.inl (31 * v1))), .inr (.inr (.inl (31)))]) rfl rfl rfl rfl rfl rfl rfl rfl rfl rfl (Nat.zero_le _) rfl (am_CC_le (Nat.le_of_ble_eq_true rfl) (tm_X6_errorOf h)) (fun r M24 q => ?_) (fun _ _ q => q.elim)
      obtain ⟨x23, rfl, h⟩ := q
      obtain ⟨c0_0, h⟩ := h
      refine am_Wrun 6 (ps := [am_rg x23]) (pc' := 128) (lv' := [(0, .inr (.inl (some 69))), (1, .inr (.inr (.inl (v1)))), (3, .inl (v3)), (4, .inl (v4))]) (st' := [.inl (1), .inl (v3), .inr (.inl (some 69)), .inr (.inr (.inl (31 * ((31 * v1) + x23))))]) (M' := M24) rfl ⟨c0_0, trivial⟩ ?_
      refine am_WcallV (y := 170) (n := 3) (a := 69) (f := 131) (as := [.inl (v3), .inl (1)]) (st' := [.inr (.inr (.inl (31 * ((31 * v1) + x23))))]) rfl rfl rfl rfl rfl rfl rfl rfl rfl rfl (Nat.zero_le _) rfl (am_CC_le (Nat.le_of_ble_eq_true rfl) (tm_X6_errorOf h)) (fun r M26 q => ?_) (fun _ _ q => q.elim)
      obtain ⟨x25, rfl, h⟩ := q
      obtain ⟨c0_0, h⟩ := h
      refine am_Wrun 5 (ps := [am_rg x25]) (pc' := 67) (lv' := [(3, .inl (v3 + 1)), (1, .inr (.inr (.inl ((31 * ((31 * v1) + x23)) + x25)))), (0, .inr (.inl (some 69))), (4, .inl (v4))]) (st' := []) (M' := M26) rfl ⟨c0_0, trivial⟩ ?_
      refine am_W_sub [2, 1, 0] rfl ?_
      exact hk67 ((31 * ((31 * v1) + x23)) + x25) (v3 + 1) M26 h
    · have h := hf q
      refine am_Wrun 6 (ps := []) (pc' := 96) (lv' := [(0, .inr (.inl (some 69))), (1, .inr (.inr (.inl (v1)))), (3, .inl (v3)), (4, .inl (v4))]) (st' := [.inl (v4), .inl (v3), .inr (.inl (some 69)), .inr (.inr (.inl (31 * v1)))]) (M' := M) rfl trivial ?_
      refine am_WcallV (y := 167) (n := 3) (a := 69) (f := 99) (as := [.inl (v3), .inl (v4)]) (st' := [.inr (.inr (.inl (31 * v1)))]) rfl rfl rfl rfl rfl rfl rfl rfl rfl rfl (Nat.zero_le _) rfl (am_CC_le (Nat.le_of_ble_eq_true rfl) (tm_X6_aboutPoint h)) (fun r M28 q => ?_) (fun _ _ q => q.elim)
      obtain ⟨x27, rfl, h⟩ := q
      obtain ⟨c0_0, h⟩ := h
      refine am_Wrun 5 (ps := [am_rg x27]) (pc' := 80) (lv' := [(4, .inl (v4 + 1)), (1, .inr (.inr (.inl ((31 * v1) + x27)))), (0, .inr (.inl (some 69))), (3, .inl (v3))]) (st' := []) (M' := M28) rfl ⟨c0_0, trivial⟩ ?_
      refine am_W_sub [2, 1, 3, 0] rfl ?_
      exact tw_X6_digest_80 hk67 n ((31 * v1) + x27) v3 (v4 + 1) M28 h
set_option maxRecDepth 20000 in
theorem tw_X6_digest_67 {Q : Int → am_M → Prop} {QX : am_X} : ∀ (n : Nat) (v1 : Int) (v3 : Int) (M : am_M), wl_X6_digest_67 Q n v1 v3 M → am_W (am_CC 9) dt_X6_digest 9 0 none (am_QL Q) QX (0, 67, [(0, .inr (.inl (some 69))), (1, .inr (.inr (.inl (v1)))), (3, .inl (v3))], [], M)
  | 0, _, _, _, h => h.elim
  | n + 1, v1, v3, M, h => by
    refine am_Wrun 5 (ps := [0 ≤ (0 : Int) ∧ (0 : Int) < 203]) (pc' := 74) (lv' := [(0, .inr (.inl (some 69))), (1, .inr (.inr (.inl (v1)))), (3, .inl (v3))]) (st' := [.inl (M 70 0), .inl (v3)]) (M' := M) rfl ⟨⟨by decide, by decide⟩, trivial⟩ ?_
    obtain ⟨b0, b1, ht, hf⟩ := h
    refine am_Wbr (P := [am_rg v3, am_rg (M 70 0)]) (c := (M 70 0) ≤ v3) (t := 140) (f := 77) (st' := []) rfl rfl ⟨b0, b1, trivial⟩ rfl (fun q => ?_) (fun q => ?_)
    · have h := ht q
      refine am_Wrun 2 (ps := []) (pc' := 142) (lv' := [(3, .inl (0)), (0, .inr (.inl (some 69))), (1, .inr (.inr (.inl (v1))))]) (st' := []) (M' := M) rfl trivial ?_
      refine am_W_sub [1, 2, 0] rfl ?_
      obtain ⟨n142, h⟩ := h
      exact tw_X6_digest_142 n142 v1 0 M h
    · have h := hf q
      refine am_Wrun 2 (ps := []) (pc' := 80) (lv' := [(4, .inl (0)), (0, .inr (.inl (some 69))), (1, .inr (.inr (.inl (v1)))), (3, .inl (v3))]) (st' := []) (M' := M) rfl trivial ?_
      refine am_W_sub [1, 2, 3, 0] rfl ?_
      obtain ⟨n80, h⟩ := h
      exact tw_X6_digest_80 (tw_X6_digest_67 n) n80 v1 v3 0 M h
set_option maxRecDepth 20000 in
theorem tw_X6_digest_38 {Q : Int → am_M → Prop} {QX : am_X} : ∀ (n : Nat) (v1 : Int) (v3 : Int) (M : am_M), wl_X6_digest_38 Q n v1 v3 M → am_W (am_CC 9) dt_X6_digest 9 0 none (am_QL Q) QX (0, 38, [(0, .inr (.inl (some 69))), (1, .inr (.inr (.inl (v1)))), (3, .inl (v3))], [], M)
  | 0, _, _, _, h => h.elim
  | n + 1, v1, v3, M, h => by
    refine am_Wrun 2 (ps := []) (pc' := 40) (lv' := [(0, .inr (.inl (some 69))), (1, .inr (.inr (.inl (v1)))), (3, .inl (v3))]) (st' := [.inl (3), .inl (v3)]) (M' := M) rfl trivial ?_
    obtain ⟨b0, ht, hf⟩ := h
    refine am_Wbr (P := [am_rg v3, am_rg 3]) (c := 3 ≤ v3) (t := 65) (f := 43) (st' := []) rfl rfl ⟨b0, (am_rgd rfl), trivial⟩ rfl (fun q => ?_) (fun q => ?_)
    · have h := ht q
      refine am_Wrun 2 (ps := []) (pc' := 67) (lv' := [(3, .inl (0)), (0, .inr (.inl (some 69))), (1, .inr (.inr (.inl (v1))))]) (st' := []) (M' := M) rfl trivial ?_
      refine am_W_sub [1, 2, 0] rfl ?_
      obtain ⟨n67, h⟩ := h
      exact tw_X6_digest_67 n67 v1 0 M h
    · have h := hf q
      obtain ⟨c0_0, c1_0, h⟩ := h
      refine am_Wrun 14 (ps := [0 ≤ (4 + v3 : Int) ∧ (4 + v3 : Int) < 203, am_rg (M 70 (4 + v3))]) (pc' := 38) (lv' := [(3, .inl (v3 + 1)), (1, .inr (.inr (.inl ((31 * v1) + (M 70 (4 + v3)))))), (0, .inr (.inl (some 69)))]) (st' := []) (M' := M) rfl ⟨c0_0, c1_0, trivial⟩ ?_
      refine am_W_sub [2, 1, 0] rfl ?_
      exact tw_X6_digest_38 n ((31 * v1) + (M 70 (4 + v3))) (v3 + 1) M h
set_option maxRecDepth 20000 in
theorem tw_X6_digest_11 {Q : Int → am_M → Prop} {QX : am_X} : ∀ (n : Nat) (v1 : Int) (v3 : Int) (M : am_M), wl_X6_digest_11 Q n v1 v3 M → am_W (am_CC 9) dt_X6_digest 9 0 none (am_QL Q) QX (0, 11, [(0, .inr (.inl (some 69))), (1, .inr (.inr (.inl (v1)))), (3, .inl (v3))], [], M)
  | 0, _, _, _, h => h.elim
  | n + 1, v1, v3, M, h => by
    refine am_Wrun 2 (ps := [-128 ≤ (11 : Int) ∧ (11 : Int) ≤ 127]) (pc' := 14) (lv' := [(0, .inr (.inl (some 69))), (1, .inr (.inr (.inl (v1)))), (3, .inl (v3))]) (st' := [.inl (11), .inl (v3)]) (M' := M) rfl ⟨⟨by decide, by decide⟩, trivial⟩ ?_
    obtain ⟨b0, ht, hf⟩ := h
    refine am_Wbr (P := [am_rg v3, am_rg 11]) (c := 11 ≤ v3) (t := 36) (f := 17) (st' := []) rfl rfl ⟨b0, (am_rgd rfl), trivial⟩ rfl (fun q => ?_) (fun q => ?_)
    · have h := ht q
      refine am_Wrun 2 (ps := []) (pc' := 38) (lv' := [(3, .inl (0)), (0, .inr (.inl (some 69))), (1, .inr (.inr (.inl (v1))))]) (st' := []) (M' := M) rfl trivial ?_
      refine am_W_sub [1, 2, 0] rfl ?_
      obtain ⟨n38, h⟩ := h
      exact tw_X6_digest_38 n38 v1 0 M h
    · have h := hf q
      refine am_Wrun 5 (ps := []) (pc' := 24) (lv' := [(0, .inr (.inl (some 69))), (1, .inr (.inr (.inl (v1)))), (3, .inl (v3))]) (st' := [.inl (v3), .inr (.inl (some 69)), .inr (.inr (.inl (31 * v1)))]) (M' := M) rfl trivial ?_
      refine am_WcallV (y := 179) (n := 2) (a := 69) (f := 27) (as := [.inl (v3)]) (st' := [.inr (.inr (.inl (31 * v1)))]) rfl rfl rfl rfl rfl rfl rfl rfl rfl rfl (Nat.zero_le _) rfl (am_CC_le (Nat.le_of_ble_eq_true rfl) (tm_X6_number h)) (fun r M30 q => ?_) (fun _ _ q => q.elim)
      obtain ⟨x29, rfl, h⟩ := q
      obtain ⟨c0_0, h⟩ := h
      refine am_Wrun 5 (ps := [am_rg x29]) (pc' := 11) (lv' := [(3, .inl (v3 + 1)), (1, .inr (.inr (.inl ((31 * v1) + x29)))), (0, .inr (.inl (some 69)))]) (st' := []) (M' := M30) rfl ⟨c0_0, trivial⟩ ?_
      refine am_W_sub [2, 1, 0] rfl ?_
      exact tw_X6_digest_11 n ((31 * v1) + x29) (v3 + 1) M30 h
set_option maxRecDepth 20000 in
theorem tm_X6_digest {M : am_M} {Q : Int → am_M → Prop} (h : wp_X6_digest M Q) : am_CC 10 196 [.inr (.inl (some 69))] M (am_QL Q) (fun _ _ => False) := by
  refine ⟨Nat.le_of_ble_eq_true rfl, ?_⟩
  show am_W (am_CC 9) dt_X6_digest 9 0 none (am_QL Q) (am_qx 196 (fun _ _ => False)) (0, 0, [(0, .inr (.inl (some 69)))], [], M)
  refine am_Wrun 7 (ps := []) (pc' := 11) (lv' := [(3, .inl (0)), (1, .inr (.inr (.inl (2381)))), (0, .inr (.inl (some 69)))]) (st' := []) (M' := (am_up M 69 5 0)) rfl trivial ?_
  refine am_W_sub [2, 1, 0] rfl ?_
  obtain ⟨n11, h⟩ := h
  exact tw_X6_digest_11 n11 2381 0 (am_up M 69 5 0) h
