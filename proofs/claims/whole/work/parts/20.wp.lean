abbrev dt_X5_isTime : am_D := (tk_X5_isTime, 5, 1, some .boolean, tb_hn 77)
def wp_X5_isTime (a0 : Int) (M : am_M) (Q : Int → am_M → Prop) : Prop := (am_rg a0) ∧ (a0 < 0 → Q 0 M) ∧ (¬ a0 < 0 → (am_rg a0) ∧ (9999 < a0 → Q 0 M) ∧ (¬ 9999 < a0 → Q 1 M))
set_option maxRecDepth 20000 in
theorem tm_X5_isTime {a0 : Int} {M : am_M} {Q : Int → am_M → Prop} (h : wp_X5_isTime a0 M Q) : am_CC 1 77 [.inl (a0)] M (am_QI Q) (fun _ _ => False) := by
  refine ⟨Nat.le_of_ble_eq_true rfl, ?_⟩
  show am_W (am_CC 0) dt_X5_isTime 0 0 none (am_QI Q) (am_qx 77 (fun _ _ => False)) (0, 0, [(0, .inl (a0))], [], M)
  refine am_Wrun 1 (ps := []) (pc' := 1) (lv' := [(0, .inl (a0))]) (st' := [.inl (a0)]) (M' := M) rfl trivial ?_
  obtain ⟨b0, ht, hf⟩ := h
  refine am_Wbr (P := [am_rg a0]) (c := a0 < 0) (t := 15) (f := 4) (st' := []) rfl rfl ⟨b0, trivial⟩ rfl (fun q => ?_) (fun q => ?_)
  · have h := ht q
    refine am_Wrun 1 (ps := []) (pc' := 16) (lv' := [(0, .inl (a0))]) (st' := [.inl (0)]) (M' := M) rfl trivial ?_
    exact am_Wretz rfl rfl (Or.inl rfl) h
  · have h := hf q
    refine am_Wrun 2 (ps := [-32768 ≤ (9999 : Int) ∧ (9999 : Int) ≤ 32767]) (pc' := 8) (lv' := [(0, .inl (a0))]) (st' := [.inl (9999), .inl (a0)]) (M' := M) rfl ⟨⟨by decide, by decide⟩, trivial⟩ ?_
    obtain ⟨b0, ht, hf⟩ := h
    refine am_Wbr (P := [am_rg a0, am_rg 9999]) (c := 9999 < a0) (t := 15) (f := 11) (st' := []) rfl rfl ⟨b0, (am_rgd rfl), trivial⟩ rfl (fun q => ?_) (fun q => ?_)
    · have h := ht q
      refine am_Wrun 1 (ps := []) (pc' := 16) (lv' := [(0, .inl (a0))]) (st' := [.inl (0)]) (M' := M) rfl trivial ?_
      exact am_Wretz rfl rfl (Or.inl rfl) h
    · have h := hf q
      refine am_Wrun 2 (ps := []) (pc' := 16) (lv' := [(0, .inl (a0))]) (st' := [.inl (1)]) (M' := M) rfl trivial ?_
      exact am_Wretz rfl rfl (Or.inr rfl) h
abbrev dt_X5_isValue : am_D := (tk_X5_isValue, 5, 1, some .boolean, tb_hn 78)
def wp_X5_isValue (a0 : Int) (M : am_M) (Q : Int → am_M → Prop) : Prop := (am_rg a0) ∧ (a0 < (-999) → Q 0 M) ∧ (¬ a0 < (-999) → (am_rg a0) ∧ (999 < a0 → Q 0 M) ∧ (¬ 999 < a0 → Q 1 M))
set_option maxRecDepth 20000 in
theorem tm_X5_isValue {a0 : Int} {M : am_M} {Q : Int → am_M → Prop} (h : wp_X5_isValue a0 M Q) : am_CC 1 78 [.inl (a0)] M (am_QI Q) (fun _ _ => False) := by
  refine ⟨Nat.le_of_ble_eq_true rfl, ?_⟩
  show am_W (am_CC 0) dt_X5_isValue 0 0 none (am_QI Q) (am_qx 78 (fun _ _ => False)) (0, 0, [(0, .inl (a0))], [], M)
  refine am_Wrun 2 (ps := [-32768 ≤ ((-999) : Int) ∧ ((-999) : Int) ≤ 32767]) (pc' := 4) (lv' := [(0, .inl (a0))]) (st' := [.inl ((-999)), .inl (a0)]) (M' := M) rfl ⟨⟨by decide, by decide⟩, trivial⟩ ?_
  obtain ⟨b0, ht, hf⟩ := h
  refine am_Wbr (P := [am_rg a0, am_rg (-999)]) (c := a0 < (-999)) (t := 18) (f := 7) (st' := []) rfl rfl ⟨b0, (am_rgd rfl), trivial⟩ rfl (fun q => ?_) (fun q => ?_)
  · have h := ht q
    refine am_Wrun 1 (ps := []) (pc' := 19) (lv' := [(0, .inl (a0))]) (st' := [.inl (0)]) (M' := M) rfl trivial ?_
    exact am_Wretz rfl rfl (Or.inl rfl) h
  · have h := hf q
    refine am_Wrun 2 (ps := [-32768 ≤ (999 : Int) ∧ (999 : Int) ≤ 32767]) (pc' := 11) (lv' := [(0, .inl (a0))]) (st' := [.inl (999), .inl (a0)]) (M' := M) rfl ⟨⟨by decide, by decide⟩, trivial⟩ ?_
    obtain ⟨b0, ht, hf⟩ := h
    refine am_Wbr (P := [am_rg a0, am_rg 999]) (c := 999 < a0) (t := 18) (f := 14) (st' := []) rfl rfl ⟨b0, (am_rgd rfl), trivial⟩ rfl (fun q => ?_) (fun q => ?_)
    · have h := ht q
      refine am_Wrun 1 (ps := []) (pc' := 19) (lv' := [(0, .inl (a0))]) (st' := [.inl (0)]) (M' := M) rfl trivial ?_
      exact am_Wretz rfl rfl (Or.inl rfl) h
    · have h := hf q
      refine am_Wrun 2 (ps := []) (pc' := 19) (lv' := [(0, .inl (a0))]) (st' := [.inl (1)]) (M' := M) rfl trivial ?_
      exact am_Wretz rfl rfl (Or.inr rfl) h
abbrev dt_X2_placeOf : am_D := (tk_X2_placeOf, 2, 3, some .int, tb_hn 20)
def wl_X2_placeOf_2 (Q : Int → am_M → Prop) : Nat → Int → Int → am_M → Prop
  | 0, _, _, _ => False
  | n + 1, v1, v2, M => (am_rg v2) ∧ (am_rg (M 1 7)) ∧ ((M 1 7) ≤ v2 → Q (M 1 7) M) ∧ (¬ (M 1 7) ≤ v2 → (0 ≤ (v2 : Int) ∧ (v2 : Int) < 60) ∧ ((am_rg (M 2 v2)) ∧ (am_rg v1) ∧ ((M 2 v2) < v1 → wl_X2_placeOf_2 Q n v1 (v2 + 1) M) ∧ (¬ (M 2 v2) < v1 → Q v2 M)))
def wp_X2_placeOf (a0 : Int) (M : am_M) (Q : Int → am_M → Prop) : Prop := ∃ e2, wl_X2_placeOf_2 Q e2 a0 0 M
set_option maxRecDepth 20000 in
theorem tw_X2_placeOf_2 {Q : Int → am_M → Prop} {QX : am_X} : ∀ (n : Nat) (v1 : Int) (v2 : Int) (M : am_M), wl_X2_placeOf_2 Q n v1 v2 M → am_W (am_CC 0) dt_X2_placeOf 0 0 none (am_QI Q) QX (0, 2, [(0, .inr (.inl (some 1))), (1, .inl (v1)), (2, .inl (v2))], [], M)
  | 0, _, _, _, h => h.elim
  | n + 1, v1, v2, M, h => by
    refine am_Wrun 3 (ps := []) (pc' := 7) (lv' := [(0, .inr (.inl (some 1))), (1, .inl (v1)), (2, .inl (v2))]) (st' := [.inl (M 1 7), .inl (v2)]) (M' := M) rfl trivial ?_
    obtain ⟨b0, b1, ht, hf⟩ := h
    refine am_Wbr (P := [am_rg v2, am_rg (M 1 7)]) (c := (M 1 7) ≤ v2) (t := 28) (f := 10) (st' := []) rfl rfl ⟨b0, b1, trivial⟩ rfl (fun q => ?_) (fun q => ?_)
    · have h := ht q
      refine am_Wrun 2 (ps := []) (pc' := 32) (lv' := [(0, .inr (.inl (some 1))), (1, .inl (v1)), (2, .inl (v2))]) (st' := [.inl (M 1 7)]) (M' := M) rfl trivial ?_
      exact am_Wreti rfl rfl h
    · have h := hf q
      obtain ⟨c0_0, h⟩ := h
      refine am_Wrun 5 (ps := [0 ≤ (v2 : Int) ∧ (v2 : Int) < 60]) (pc' := 17) (lv' := [(0, .inr (.inl (some 1))), (1, .inl (v1)), (2, .inl (v2))]) (st' := [.inl (v1), .inl (M 2 v2)]) (M' := M) rfl ⟨c0_0, trivial⟩ ?_
      obtain ⟨b0, b1, ht, hf⟩ := h
      refine am_Wbr (P := [am_rg (M 2 v2), am_rg v1]) (c := (M 2 v2) < v1) (t := 22) (f := 20) (st' := []) rfl rfl ⟨b0, b1, trivial⟩ rfl (fun q => ?_) (fun q => ?_)
      · have h := ht q
        refine am_Wrun 2 (ps := []) (pc' := 2) (lv' := [(2, .inl (v2 + 1)), (0, .inr (.inl (some 1))), (1, .inl (v1))]) (st' := []) (M' := M) rfl trivial ?_
        refine am_W_sub [1, 2, 0] rfl ?_
        exact tw_X2_placeOf_2 n v1 (v2 + 1) M h
      · have h := hf q
        refine am_Wrun 1 (ps := []) (pc' := 21) (lv' := [(0, .inr (.inl (some 1))), (1, .inl (v1)), (2, .inl (v2))]) (st' := [.inl (v2)]) (M' := M) rfl trivial ?_
        exact am_Wreti rfl rfl h
set_option maxRecDepth 20000 in
theorem tm_X2_placeOf {a0 : Int} {M : am_M} {Q : Int → am_M → Prop} (h : wp_X2_placeOf a0 M Q) : am_CC 1 20 [.inr (.inl (some 1)), .inl (a0)] M (am_QI Q) (fun _ _ => False) := by
  refine ⟨Nat.le_of_ble_eq_true rfl, ?_⟩
  show am_W (am_CC 0) dt_X2_placeOf 0 0 none (am_QI Q) (am_qx 20 (fun _ _ => False)) (0, 0, [(0, .inr (.inl (some 1))), (1, .inl (a0))], [], M)
  refine am_Wrun 2 (ps := []) (pc' := 2) (lv' := [(2, .inl (0)), (0, .inr (.inl (some 1))), (1, .inl (a0))]) (st' := []) (M' := M) rfl trivial ?_
  refine am_W_sub [1, 2, 0] rfl ?_
  obtain ⟨n2, h⟩ := h
  exact tw_X2_placeOf_2 n2 a0 0 M h
abbrev dt_X2_hasPoint : am_D := (tk_X2_hasPoint, 2, 2, some .boolean, tb_hn 9)
def wp_X2_hasPoint (a0 : Int) (M : am_M) (Q : Int → am_M → Prop) : Prop := (am_rg a0) ∧ (a0 < 0 → Q 0 M) ∧ (¬ a0 < 0 → (am_rg a0) ∧ (am_rg (M 1 7)) ∧ ((M 1 7) ≤ a0 → Q 0 M) ∧ (¬ (M 1 7) ≤ a0 → Q 1 M))
set_option maxRecDepth 20000 in
theorem tm_X2_hasPoint {a0 : Int} {M : am_M} {Q : Int → am_M → Prop} (h : wp_X2_hasPoint a0 M Q) : am_CC 1 9 [.inr (.inl (some 1)), .inl (a0)] M (am_QI Q) (fun _ _ => False) := by
  refine ⟨Nat.le_of_ble_eq_true rfl, ?_⟩
  show am_W (am_CC 0) dt_X2_hasPoint 0 0 none (am_QI Q) (am_qx 9 (fun _ _ => False)) (0, 0, [(0, .inr (.inl (some 1))), (1, .inl (a0))], [], M)
  refine am_Wrun 1 (ps := []) (pc' := 1) (lv' := [(0, .inr (.inl (some 1))), (1, .inl (a0))]) (st' := [.inl (a0)]) (M' := M) rfl trivial ?_
  obtain ⟨b0, ht, hf⟩ := h
  refine am_Wbr (P := [am_rg a0]) (c := a0 < 0) (t := 16) (f := 4) (st' := []) rfl rfl ⟨b0, trivial⟩ rfl (fun q => ?_) (fun q => ?_)
  · have h := ht q
    refine am_Wrun 1 (ps := []) (pc' := 17) (lv' := [(0, .inr (.inl (some 1))), (1, .inl (a0))]) (st' := [.inl (0)]) (M' := M) rfl trivial ?_
    exact am_Wretz rfl rfl (Or.inl rfl) h
  · have h := hf q
    refine am_Wrun 3 (ps := []) (pc' := 9) (lv' := [(0, .inr (.inl (some 1))), (1, .inl (a0))]) (st' := [.inl (M 1 7), .inl (a0)]) (M' := M) rfl trivial ?_
    obtain ⟨b0, b1, ht, hf⟩ := h
    refine am_Wbr (P := [am_rg a0, am_rg (M 1 7)]) (c := (M 1 7) ≤ a0) (t := 16) (f := 12) (st' := []) rfl rfl ⟨b0, b1, trivial⟩ rfl (fun q => ?_) (fun q => ?_)
    · have h := ht q
      refine am_Wrun 1 (ps := []) (pc' := 17) (lv' := [(0, .inr (.inl (some 1))), (1, .inl (a0))]) (st' := [.inl (0)]) (M' := M) rfl trivial ?_
      exact am_Wretz rfl rfl (Or.inl rfl) h
    · have h := hf q
      refine am_Wrun 2 (ps := []) (pc' := 17) (lv' := [(0, .inr (.inl (some 1))), (1, .inl (a0))]) (st' := [.inl (1)]) (M' := M) rfl trivial ?_
      exact am_Wretz rfl rfl (Or.inr rfl) h
abbrev dt_X2_hasTime : am_D := (tk_X2_hasTime, 2, 3, some .boolean, tb_hn 79)
def wp_X2_hasTime (a0 : Int) (M : am_M) (Q : Int → am_M → Prop) : Prop := wp_X2_placeOf a0 M (fun x1 M2 => wp_X2_hasPoint x1 M2 (fun x3 M4 => (am_rg x3) ∧ (x3 = 0 → Q 0 M4) ∧ (¬ x3 = 0 → (0 ≤ (x1 : Int) ∧ (x1 : Int) < 60) ∧ ((am_rg (M4 2 x1)) ∧ (am_rg a0) ∧ (¬ (M4 2 x1) = a0 → Q 0 M4) ∧ (¬ (¬ (M4 2 x1) = a0) → Q 1 M4)))))
set_option maxRecDepth 20000 in
theorem tm_X2_hasTime {a0 : Int} {M : am_M} {Q : Int → am_M → Prop} (h : wp_X2_hasTime a0 M Q) : am_CC 2 79 [.inr (.inl (some 1)), .inl (a0)] M (am_QI Q) (fun _ _ => False) := by
  refine ⟨Nat.le_of_ble_eq_true rfl, ?_⟩
  show am_W (am_CC 1) dt_X2_hasTime 1 0 none (am_QI Q) (am_qx 79 (fun _ _ => False)) (0, 0, [(0, .inr (.inl (some 1))), (1, .inl (a0))], [], M)
  refine am_Wrun 2 (ps := []) (pc' := 2) (lv' := [(0, .inr (.inl (some 1))), (1, .inl (a0))]) (st' := [.inl (a0), .inr (.inl (some 1))]) (M' := M) rfl trivial ?_
  refine am_WcallV (y := 20) (n := 2) (a := 1) (f := 5) (as := [.inl (a0)]) (st' := []) rfl rfl rfl rfl rfl rfl rfl rfl rfl rfl (Nat.zero_le _) rfl (am_CC_le (Nat.le_of_ble_eq_true rfl) (tm_X2_placeOf h)) (fun r M2 q => ?_) (fun _ _ q => q.elim)
  obtain ⟨x1, rfl, h⟩ := q
  refine am_Wrun 3 (ps := []) (pc' := 8) (lv' := [(2, .inl (x1)), (0, .inr (.inl (some 1))), (1, .inl (a0))]) (st' := [.inl (x1), .inr (.inl (some 1))]) (M' := M2) rfl trivial ?_
  refine am_WcallV (y := 9) (n := 2) (a := 1) (f := 11) (as := [.inl (x1)]) (st' := []) rfl rfl rfl rfl rfl rfl rfl rfl rfl rfl (Nat.zero_le _) rfl (am_CC_le (Nat.le_of_ble_eq_true rfl) (tm_X2_hasPoint h)) (fun r M4 q => ?_) (fun _ _ q => q.elim)
  obtain ⟨x3, rfl, h⟩ := q
  obtain ⟨b0, ht, hf⟩ := h
  refine am_Wbr (P := [am_rg x3]) (c := x3 = 0) (t := 28) (f := 14) (st' := []) rfl rfl ⟨b0, trivial⟩ rfl (fun q => ?_) (fun q => ?_)
  · have h := ht q
    refine am_Wrun 1 (ps := []) (pc' := 29) (lv' := [(2, .inl (x1)), (0, .inr (.inl (some 1))), (1, .inl (a0))]) (st' := [.inl (0)]) (M' := M4) rfl trivial ?_
    exact am_Wretz rfl rfl (Or.inl rfl) h
  · have h := hf q
    obtain ⟨c0_0, h⟩ := h
    refine am_Wrun 5 (ps := [0 ≤ (x1 : Int) ∧ (x1 : Int) < 60]) (pc' := 21) (lv' := [(2, .inl (x1)), (0, .inr (.inl (some 1))), (1, .inl (a0))]) (st' := [.inl (a0), .inl (M4 2 x1)]) (M' := M4) rfl ⟨c0_0, trivial⟩ ?_
    obtain ⟨b0, b1, ht, hf⟩ := h
    refine am_Wbr (P := [am_rg (M4 2 x1), am_rg a0]) (c := ¬ (M4 2 x1) = a0) (t := 28) (f := 24) (st' := []) rfl rfl ⟨b0, b1, trivial⟩ rfl (fun q => ?_) (fun q => ?_)
    · have h := ht q
      refine am_Wrun 1 (ps := []) (pc' := 29) (lv' := [(2, .inl (x1)), (0, .inr (.inl (some 1))), (1, .inl (a0))]) (st' := [.inl (0)]) (M' := M4) rfl trivial ?_
      exact am_Wretz rfl rfl (Or.inl rfl) h
    · have h := hf q
      refine am_Wrun 2 (ps := []) (pc' := 29) (lv' := [(2, .inl (x1)), (0, .inr (.inl (some 1))), (1, .inl (a0))]) (st' := [.inl (1)]) (M' := M4) rfl trivial ?_
      exact am_Wretz rfl rfl (Or.inr rfl) h
abbrev dt_J9_floorMod_7cf53 : am_D := (tk_J9_floorMod_7cf53, 7, 3, some .int, tb_hn 3)
def wp_J9_floorMod_7cf53 (a0 : Int) (a1 : Int) (M : am_M) (Q : Int → am_M → Prop) : Prop := (am_rg a0 ∧ am_rg a1 ∧ (0 : Int) < a1) ∧ ((am_rg ((Int32.ofInt a0 ^^^ Int32.ofInt a1).toInt)) ∧ (0 ≤ ((Int32.ofInt a0 ^^^ Int32.ofInt a1).toInt) → Q (Int.tmod a0 a1) M) ∧ (¬ 0 ≤ ((Int32.ofInt a0 ^^^ Int32.ofInt a1).toInt) → (am_rg (Int.tmod a0 a1)) ∧ ((Int.tmod a0 a1) = 0 → Q (Int.tmod a0 a1) M) ∧ (¬ (Int.tmod a0 a1) = 0 → Q ((Int.tmod a0 a1) + a1) M)))
set_option maxRecDepth 20000 in
theorem tm_J9_floorMod_7cf53 {a0 a1 : Int} {M : am_M} {Q : Int → am_M → Prop} (h : wp_J9_floorMod_7cf53 a0 a1 M Q) : am_CC 1 3 [.inl (a0), .inl (a1)] M (am_QI Q) (fun _ _ => False) := by
  refine ⟨Nat.le_of_ble_eq_true rfl, ?_⟩
  show am_W (am_CC 0) dt_J9_floorMod_7cf53 0 0 none (am_QI Q) (am_qx 3 (fun _ _ => False)) (0, 0, [(0, .inl (a0)), (1, .inl (a1))], [], M)
  obtain ⟨c0_0, h⟩ := h
  refine am_Wrun 7 (ps := [am_rg a0 ∧ am_rg a1 ∧ (0 : Int) < a1]) (pc' := 7) (lv' := [(2, .inl (Int.tmod a0 a1)), (0, .inl (a0)), (1, .inl (a1))]) (st' := [.inl ((Int32.ofInt a0 ^^^ Int32.ofInt a1).toInt)]) (M' := M) rfl ⟨c0_0, trivial⟩ ?_
  obtain ⟨b0, ht, hf⟩ := h
  refine am_Wbr (P := [am_rg ((Int32.ofInt a0 ^^^ Int32.ofInt a1).toInt)]) (c := 0 ≤ ((Int32.ofInt a0 ^^^ Int32.ofInt a1).toInt)) (t := 18) (f := 10) (st' := []) rfl rfl ⟨b0, trivial⟩ rfl (fun q => ?_) (fun q => ?_)
  · have h := ht q
    refine am_Wrun 1 (ps := []) (pc' := 19) (lv' := [(2, .inl (Int.tmod a0 a1)), (0, .inl (a0)), (1, .inl (a1))]) (st' := [.inl (Int.tmod a0 a1)]) (M' := M) rfl trivial ?_
    exact am_Wreti rfl rfl h
  · have h := hf q
    refine am_Wrun 1 (ps := []) (pc' := 11) (lv' := [(2, .inl (Int.tmod a0 a1)), (0, .inl (a0)), (1, .inl (a1))]) (st' := [.inl (Int.tmod a0 a1)]) (M' := M) rfl trivial ?_
    obtain ⟨b0, ht, hf⟩ := h
    refine am_Wbr (P := [am_rg (Int.tmod a0 a1)]) (c := (Int.tmod a0 a1) = 0) (t := 18) (f := 14) (st' := []) rfl rfl ⟨b0, trivial⟩ rfl (fun q => ?_) (fun q => ?_)
    · have h := ht q
      refine am_Wrun 1 (ps := []) (pc' := 19) (lv' := [(2, .inl (Int.tmod a0 a1)), (0, .inl (a0)), (1, .inl (a1))]) (st' := [.inl (Int.tmod a0 a1)]) (M' := M) rfl trivial ?_
      exact am_Wreti rfl rfl h
    · have h := hf q
      refine am_Wrun 3 (ps := []) (pc' := 17) (lv' := [(2, .inl (Int.tmod a0 a1)), (0, .inl (a0)), (1, .inl (a1))]) (st' := [.inl ((Int.tmod a0 a1) + a1)]) (M' := M) rfl trivial ?_
      exact am_Wreti rfl rfl h
abbrev dt_X0_rowAt : am_D := (tk_X0_rowAt, 0, 3, some (.object "OathDiary$State"), tb_hn 2)
def wp_X0_rowAt (a0 : Int) (M : am_M) (Q : Option Nat → am_M → Prop) : Prop := wp_J9_floorMod_7cf53 a0 6 M (fun x1 M2 => (am_rg x1) ∧ (x1 < 0 → Q none M2) ∧ (¬ x1 < 0 → (am_rg x1) ∧ (6 ≤ x1 → Q none M2) ∧ (¬ 6 ≤ x1 → (0 ≤ x1 ∧ x1 < 6) ∧ (x1 = 0 → Q (some 16) M2) ∧ (x1 = 1 → Q (some 24) M2) ∧ (x1 = 2 → Q (some 32) M2) ∧ (x1 = 3 → Q (some 40) M2) ∧ (x1 = 4 → Q (some 48) M2) ∧ (x1 = 5 → Q (some 56) M2))))
set_option maxRecDepth 20000 in
theorem tm_X0_rowAt {a0 : Int} {M : am_M} {Q : Option Nat → am_M → Prop} (h : wp_X0_rowAt a0 M Q) : am_CC 2 2 [.inr (.inl (some 14)), .inl (a0)] M (am_QR Q) (fun _ _ => False) := by
  refine ⟨Nat.le_of_ble_eq_true rfl, ?_⟩
  show am_W (am_CC 1) dt_X0_rowAt 1 0 none (am_QR Q) (am_qx 2 (fun _ _ => False)) (0, 0, [(0, .inr (.inl (some 14))), (1, .inl (a0))], [], M)
  refine am_Wrun 2 (ps := [-128 ≤ (6 : Int) ∧ (6 : Int) ≤ 127]) (pc' := 3) (lv' := [(0, .inr (.inl (some 14))), (1, .inl (a0))]) (st' := [.inl (6), .inl (a0)]) (M' := M) rfl ⟨⟨by decide, by decide⟩, trivial⟩ ?_
  refine am_WcallS (y := 3) (n := 2) (f := 6) (co := 0) (as := [.inl (a0), .inl (6)]) (st' := []) rfl rfl rfl rfl rfl rfl rfl rfl rfl (Nat.zero_le _) rfl (am_CC_le (Nat.le_of_ble_eq_true rfl) (tm_J9_floorMod_7cf53 h)) (fun r M2 q => ?_) (fun _ _ q => q.elim)
  obtain ⟨x1, rfl, h⟩ := q
  refine am_Wrun 2 (ps := []) (pc' := 8) (lv' := [(2, .inl (x1)), (0, .inr (.inl (some 14))), (1, .inl (a0))]) (st' := [.inl (x1)]) (M' := M2) rfl trivial ?_
  obtain ⟨b0, ht, hf⟩ := h
  refine am_Wbr (P := [am_rg x1]) (c := x1 < 0) (t := 29) (f := 11) (st' := []) rfl rfl ⟨b0, trivial⟩ rfl (fun q => ?_) (fun q => ?_)
  · have h := ht q
    refine am_Wrun 1 (ps := []) (pc' := 30) (lv' := [(2, .inl (x1)), (0, .inr (.inl (some 14))), (1, .inl (a0))]) (st' := [.inr (.inl none)]) (M' := M2) rfl trivial ?_
    exact am_Wreta rfl rfl h
  · have h := hf q
    refine am_Wrun 4 (ps := []) (pc' := 17) (lv' := [(2, .inl (x1)), (0, .inr (.inl (some 14))), (1, .inl (a0))]) (st' := [.inl (6), .inl (x1)]) (M' := M2) rfl trivial ?_
    obtain ⟨b0, ht, hf⟩ := h
    refine am_Wbr (P := [am_rg x1, am_rg 6]) (c := 6 ≤ x1) (t := 29) (f := 20) (st' := []) rfl rfl ⟨b0, (am_rgd rfl), trivial⟩ rfl (fun q => ?_) (fun q => ?_)
    · have h := ht q
      refine am_Wrun 1 (ps := []) (pc' := 30) (lv' := [(2, .inl (x1)), (0, .inr (.inl (some 14))), (1, .inl (a0))]) (st' := [.inr (.inl none)]) (M' := M2) rfl trivial ?_
      exact am_Wreta rfl rfl h
    · have h := hf q
      refine am_Wrun 3 (ps := []) (pc' := 25) (lv' := [(2, .inl (x1)), (0, .inr (.inl (some 14))), (1, .inl (a0))]) (st' := [.inl (x1), .inr (.inl (some 15))]) (M' := M2) rfl trivial ?_
      obtain ⟨c0, j0, j1, j2, j3, j4, j5⟩ := h
      refine am_Waald (f := 26) rfl rfl c0 rfl (fun j r e1 e2 => ?_)
      match j, e1, e2 with
      | 0, e1, e2 =>
        cases e1
        have h := j0 e2
        refine am_Wrun 1 (ps := []) (pc' := 30) (lv' := [(2, .inl (x1)), (0, .inr (.inl (some 14))), (1, .inl (a0))]) (st' := [.inr (.inl (some 16))]) (M' := M2) rfl trivial ?_
        exact am_Wreta rfl rfl h
      | 1, e1, e2 =>
        cases e1
        have h := j1 e2
        refine am_Wrun 1 (ps := []) (pc' := 30) (lv' := [(2, .inl (x1)), (0, .inr (.inl (some 14))), (1, .inl (a0))]) (st' := [.inr (.inl (some 24))]) (M' := M2) rfl trivial ?_
        exact am_Wreta rfl rfl h
      | 2, e1, e2 =>
        cases e1
        have h := j2 e2
        refine am_Wrun 1 (ps := []) (pc' := 30) (lv' := [(2, .inl (x1)), (0, .inr (.inl (some 14))), (1, .inl (a0))]) (st' := [.inr (.inl (some 32))]) (M' := M2) rfl trivial ?_
        exact am_Wreta rfl rfl h
      | 3, e1, e2 =>
        cases e1
        have h := j3 e2
        refine am_Wrun 1 (ps := []) (pc' := 30) (lv' := [(2, .inl (x1)), (0, .inr (.inl (some 14))), (1, .inl (a0))]) (st' := [.inr (.inl (some 40))]) (M' := M2) rfl trivial ?_
        exact am_Wreta rfl rfl h
      | 4, e1, e2 =>
        cases e1
        have h := j4 e2
        refine am_Wrun 1 (ps := []) (pc' := 30) (lv' := [(2, .inl (x1)), (0, .inr (.inl (some 14))), (1, .inl (a0))]) (st' := [.inr (.inl (some 48))]) (M' := M2) rfl trivial ?_
        exact am_Wreta rfl rfl h
      | 5, e1, e2 =>
        cases e1
        have h := j5 e2
        refine am_Wrun 1 (ps := []) (pc' := 30) (lv' := [(2, .inl (x1)), (0, .inr (.inl (some 14))), (1, .inl (a0))]) (st' := [.inr (.inl (some 56))]) (M' := M2) rfl trivial ?_
        exact am_Wreta rfl rfl h
      | n + 6, e1, _ => cases e1
abbrev dt_X2_copyFrom : am_D := (tk_X2_copyFrom, 2, 2, none, tb_hn 4)
def wp_X2_copyFrom_16_1 (M : am_M) (Q : am_M → Prop) : Prop := Q (am_up (am_up (am_up (am_up (am_cp (am_cp (am_cp (am_cp (am_cp (am_cp (am_cp M 2 17 60) 3 18 60) 4 19 60) 5 20 60) 6 21 3) 7 22 8) 8 23 8) 16 7 ((am_cp (am_cp (am_cp (am_cp (am_cp (am_cp (am_cp M 2 17 60) 3 18 60) 4 19 60) 5 20 60) 6 21 3) 7 22 8) 8 23 8) 1 7)) 16 8 ((am_up (am_cp (am_cp (am_cp (am_cp (am_cp (am_cp (am_cp M 2 17 60) 3 18 60) 4 19 60) 5 20 60) 6 21 3) 7 22 8) 8 23 8) 16 7 ((am_cp (am_cp (am_cp (am_cp (am_cp (am_cp (am_cp M 2 17 60) 3 18 60) 4 19 60) 5 20 60) 6 21 3) 7 22 8) 8 23 8) 1 7)) 1 8)) 16 9 ((am_up (am_up (am_cp (am_cp (am_cp (am_cp (am_cp (am_cp (am_cp M 2 17 60) 3 18 60) 4 19 60) 5 20 60) 6 21 3) 7 22 8) 8 23 8) 16 7 ((am_cp (am_cp (am_cp (am_cp (am_cp (am_cp (am_cp M 2 17 60) 3 18 60) 4 19 60) 5 20 60) 6 21 3) 7 22 8) 8 23 8) 1 7)) 16 8 ((am_up (am_cp (am_cp (am_cp (am_cp (am_cp (am_cp (am_cp M 2 17 60) 3 18 60) 4 19 60) 5 20 60) 6 21 3) 7 22 8) 8 23 8) 16 7 ((am_cp (am_cp (am_cp (am_cp (am_cp (am_cp (am_cp M 2 17 60) 3 18 60) 4 19 60) 5 20 60) 6 21 3) 7 22 8) 8 23 8) 1 7)) 1 8)) 1 9)) 16 10 ((am_up (am_up (am_up (am_cp (am_cp (am_cp (am_cp (am_cp (am_cp (am_cp M 2 17 60) 3 18 60) 4 19 60) 5 20 60) 6 21 3) 7 22 8) 8 23 8) 16 7 ((am_cp (am_cp (am_cp (am_cp (am_cp (am_cp (am_cp M 2 17 60) 3 18 60) 4 19 60) 5 20 60) 6 21 3) 7 22 8) 8 23 8) 1 7)) 16 8 ((am_up (am_cp (am_cp (am_cp (am_cp (am_cp (am_cp (am_cp M 2 17 60) 3 18 60) 4 19 60) 5 20 60) 6 21 3) 7 22 8) 8 23 8) 16 7 ((am_cp (am_cp (am_cp (am_cp (am_cp (am_cp (am_cp M 2 17 60) 3 18 60) 4 19 60) 5 20 60) 6 21 3) 7 22 8) 8 23 8) 1 7)) 1 8)) 16 9 ((am_up (am_up (am_cp (am_cp (am_cp (am_cp (am_cp (am_cp (am_cp M 2 17 60) 3 18 60) 4 19 60) 5 20 60) 6 21 3) 7 22 8) 8 23 8) 16 7 ((am_cp (am_cp (am_cp (am_cp (am_cp (am_cp (am_cp M 2 17 60) 3 18 60) 4 19 60) 5 20 60) 6 21 3) 7 22 8) 8 23 8) 1 7)) 16 8 ((am_up (am_cp (am_cp (am_cp (am_cp (am_cp (am_cp (am_cp M 2 17 60) 3 18 60) 4 19 60) 5 20 60) 6 21 3) 7 22 8) 8 23 8) 16 7 ((am_cp (am_cp (am_cp (am_cp (am_cp (am_cp (am_cp M 2 17 60) 3 18 60) 4 19 60) 5 20 60) 6 21 3) 7 22 8) 8 23 8) 1 7)) 1 8)) 1 9)) 1 10))
set_option maxRecDepth 20000 in
theorem tm_X2_copyFrom_16_1 {M : am_M} {Q : am_M → Prop} (h : wp_X2_copyFrom_16_1 M Q) : am_CC 1 4 [.inr (.inl (some 16)), .inr (.inl (some 1))] M (am_QV Q) (fun _ _ => False) := by
  refine ⟨Nat.le_of_ble_eq_true rfl, ?_⟩
  show am_W (am_CC 0) dt_X2_copyFrom 0 0 none (am_QV Q) (am_qx 4 (fun _ _ => False)) (0, 0, [(0, .inr (.inl (some 16))), (1, .inr (.inl (some 1)))], [], M)
  refine am_Wrun 72 (ps := [-128 ≤ (60 : Int) ∧ (60 : Int) ≤ 127, (0 : Int) = 0 ∧ (0 : Int) = 0 ∧ (0 : Int) ≤ 60 ∧ (60 : Int) ≤ 60 ∧ (60 : Int) ≤ 60 ∧ am_cs [] ≤ 8, -128 ≤ (60 : Int) ∧ (60 : Int) ≤ 127, (0 : Int) = 0 ∧ (0 : Int) = 0 ∧ (0 : Int) ≤ 60 ∧ (60 : Int) ≤ 60 ∧ (60 : Int) ≤ 60 ∧ am_cs [] ≤ 8, -128 ≤ (60 : Int) ∧ (60 : Int) ≤ 127, (0 : Int) = 0 ∧ (0 : Int) = 0 ∧ (0 : Int) ≤ 60 ∧ (60 : Int) ≤ 60 ∧ (60 : Int) ≤ 60 ∧ am_cs [] ≤ 8, -128 ≤ (60 : Int) ∧ (60 : Int) ≤ 127, (0 : Int) = 0 ∧ (0 : Int) = 0 ∧ (0 : Int) ≤ 60 ∧ (60 : Int) ≤ 60 ∧ (60 : Int) ≤ 60 ∧ am_cs [] ≤ 8, (0 : Int) = 0 ∧ (0 : Int) = 0 ∧ (0 : Int) ≤ 3 ∧ (3 : Int) ≤ 3 ∧ (3 : Int) ≤ 3 ∧ am_cs [] ≤ 8, -128 ≤ (8 : Int) ∧ (8 : Int) ≤ 127, (0 : Int) = 0 ∧ (0 : Int) = 0 ∧ (0 : Int) ≤ 8 ∧ (8 : Int) ≤ 8 ∧ (8 : Int) ≤ 8 ∧ am_cs [] ≤ 8, -128 ≤ (8 : Int) ∧ (8 : Int) ≤ 127, (0 : Int) = 0 ∧ (0 : Int) = 0 ∧ (0 : Int) ≤ 8 ∧ (8 : Int) ≤ 8 ∧ (8 : Int) ≤ 8 ∧ am_cs [] ≤ 8]) (pc' := 136) (lv' := [(0, .inr (.inl (some 16))), (1, .inr (.inl (some 1)))]) (st' := []) (M' := (am_up (am_up (am_up (am_up (am_cp (am_cp (am_cp (am_cp (am_cp (am_cp (am_cp M 2 17 60) 3 18 60) 4 19 60) 5 20 60) 6 21 3) 7 22 8) 8 23 8) 16 7 ((am_cp (am_cp (am_cp (am_cp (am_cp (am_cp (am_cp M 2 17 60) 3 18 60) 4 19 60) 5 20 60) 6 21 3) 7 22 8) 8 23 8) 1 7)) 16 8 ((am_up (am_cp (am_cp (am_cp (am_cp (am_cp (am_cp (am_cp M 2 17 60) 3 18 60) 4 19 60) 5 20 60) 6 21 3) 7 22 8) 8 23 8) 16 7 ((am_cp (am_cp (am_cp (am_cp (am_cp (am_cp (am_cp M 2 17 60) 3 18 60) 4 19 60) 5 20 60) 6 21 3) 7 22 8) 8 23 8) 1 7)) 1 8)) 16 9 ((am_up (am_up (am_cp (am_cp (am_cp (am_cp (am_cp (am_cp (am_cp M 2 17 60) 3 18 60) 4 19 60) 5 20 60) 6 21 3) 7 22 8) 8 23 8) 16 7 ((am_cp (am_cp (am_cp (am_cp (am_cp (am_cp (am_cp M 2 17 60) 3 18 60) 4 19 60) 5 20 60) 6 21 3) 7 22 8) 8 23 8) 1 7)) 16 8 ((am_up (am_cp (am_cp (am_cp (am_cp (am_cp (am_cp (am_cp M 2 17 60) 3 18 60) 4 19 60) 5 20 60) 6 21 3) 7 22 8) 8 23 8) 16 7 ((am_cp (am_cp (am_cp (am_cp (am_cp (am_cp (am_cp M 2 17 60) 3 18 60) 4 19 60) 5 20 60) 6 21 3) 7 22 8) 8 23 8) 1 7)) 1 8)) 1 9)) 16 10 ((am_up (am_up (am_up (am_cp (am_cp (am_cp (am_cp (am_cp (am_cp (am_cp M 2 17 60) 3 18 60) 4 19 60) 5 20 60) 6 21 3) 7 22 8) 8 23 8) 16 7 ((am_cp (am_cp (am_cp (am_cp (am_cp (am_cp (am_cp M 2 17 60) 3 18 60) 4 19 60) 5 20 60) 6 21 3) 7 22 8) 8 23 8) 1 7)) 16 8 ((am_up (am_cp (am_cp (am_cp (am_cp (am_cp (am_cp (am_cp M 2 17 60) 3 18 60) 4 19 60) 5 20 60) 6 21 3) 7 22 8) 8 23 8) 16 7 ((am_cp (am_cp (am_cp (am_cp (am_cp (am_cp (am_cp M 2 17 60) 3 18 60) 4 19 60) 5 20 60) 6 21 3) 7 22 8) 8 23 8) 1 7)) 1 8)) 16 9 ((am_up (am_up (am_cp (am_cp (am_cp (am_cp (am_cp (am_cp (am_cp M 2 17 60) 3 18 60) 4 19 60) 5 20 60) 6 21 3) 7 22 8) 8 23 8) 16 7 ((am_cp (am_cp (am_cp (am_cp (am_cp (am_cp (am_cp M 2 17 60) 3 18 60) 4 19 60) 5 20 60) 6 21 3) 7 22 8) 8 23 8) 1 7)) 16 8 ((am_up (am_cp (am_cp (am_cp (am_cp (am_cp (am_cp (am_cp M 2 17 60) 3 18 60) 4 19 60) 5 20 60) 6 21 3) 7 22 8) 8 23 8) 16 7 ((am_cp (am_cp (am_cp (am_cp (am_cp (am_cp (am_cp M 2 17 60) 3 18 60) 4 19 60) 5 20 60) 6 21 3) 7 22 8) 8 23 8) 1 7)) 1 8)) 1 9)) 1 10))) rfl ⟨⟨by decide, by decide⟩, ⟨rfl, rfl, by decide, by decide, by decide, by decide⟩, ⟨by decide, by decide⟩, ⟨rfl, rfl, by decide, by decide, by decide, by decide⟩, ⟨by decide, by decide⟩, ⟨rfl, rfl, by decide, by decide, by decide, by decide⟩, ⟨by decide, by decide⟩, ⟨rfl, rfl, by decide, by decide, by decide, by decide⟩, ⟨rfl, rfl, by decide, by decide, by decide, by decide⟩, ⟨by decide, by decide⟩, ⟨rfl, rfl, by decide, by decide, by decide, by decide⟩, ⟨by decide, by decide⟩, ⟨rfl, rfl, by decide, by decide, by decide, by decide⟩, trivial⟩ ?_
  exact am_Wretv rfl rfl h
def wp_X2_copyFrom_24_1 (M : am_M) (Q : am_M → Prop) : Prop := Q (am_up (am_up (am_up (am_up (am_cp (am_cp (am_cp (am_cp (am_cp (am_cp (am_cp M 2 25 60) 3 26 60) 4 27 60) 5 28 60) 6 29 3) 7 30 8) 8 31 8) 24 7 ((am_cp (am_cp (am_cp (am_cp (am_cp (am_cp (am_cp M 2 25 60) 3 26 60) 4 27 60) 5 28 60) 6 29 3) 7 30 8) 8 31 8) 1 7)) 24 8 ((am_up (am_cp (am_cp (am_cp (am_cp (am_cp (am_cp (am_cp M 2 25 60) 3 26 60) 4 27 60) 5 28 60) 6 29 3) 7 30 8) 8 31 8) 24 7 ((am_cp (am_cp (am_cp (am_cp (am_cp (am_cp (am_cp M 2 25 60) 3 26 60) 4 27 60) 5 28 60) 6 29 3) 7 30 8) 8 31 8) 1 7)) 1 8)) 24 9 ((am_up (am_up (am_cp (am_cp (am_cp (am_cp (am_cp (am_cp (am_cp M 2 25 60) 3 26 60) 4 27 60) 5 28 60) 6 29 3) 7 30 8) 8 31 8) 24 7 ((am_cp (am_cp (am_cp (am_cp (am_cp (am_cp (am_cp M 2 25 60) 3 26 60) 4 27 60) 5 28 60) 6 29 3) 7 30 8) 8 31 8) 1 7)) 24 8 ((am_up (am_cp (am_cp (am_cp (am_cp (am_cp (am_cp (am_cp M 2 25 60) 3 26 60) 4 27 60) 5 28 60) 6 29 3) 7 30 8) 8 31 8) 24 7 ((am_cp (am_cp (am_cp (am_cp (am_cp (am_cp (am_cp M 2 25 60) 3 26 60) 4 27 60) 5 28 60) 6 29 3) 7 30 8) 8 31 8) 1 7)) 1 8)) 1 9)) 24 10 ((am_up (am_up (am_up (am_cp (am_cp (am_cp (am_cp (am_cp (am_cp (am_cp M 2 25 60) 3 26 60) 4 27 60) 5 28 60) 6 29 3) 7 30 8) 8 31 8) 24 7 ((am_cp (am_cp (am_cp (am_cp (am_cp (am_cp (am_cp M 2 25 60) 3 26 60) 4 27 60) 5 28 60) 6 29 3) 7 30 8) 8 31 8) 1 7)) 24 8 ((am_up (am_cp (am_cp (am_cp (am_cp (am_cp (am_cp (am_cp M 2 25 60) 3 26 60) 4 27 60) 5 28 60) 6 29 3) 7 30 8) 8 31 8) 24 7 ((am_cp (am_cp (am_cp (am_cp (am_cp (am_cp (am_cp M 2 25 60) 3 26 60) 4 27 60) 5 28 60) 6 29 3) 7 30 8) 8 31 8) 1 7)) 1 8)) 24 9 ((am_up (am_up (am_cp (am_cp (am_cp (am_cp (am_cp (am_cp (am_cp M 2 25 60) 3 26 60) 4 27 60) 5 28 60) 6 29 3) 7 30 8) 8 31 8) 24 7 ((am_cp (am_cp (am_cp (am_cp (am_cp (am_cp (am_cp M 2 25 60) 3 26 60) 4 27 60) 5 28 60) 6 29 3) 7 30 8) 8 31 8) 1 7)) 24 8 ((am_up (am_cp (am_cp (am_cp (am_cp (am_cp (am_cp (am_cp M 2 25 60) 3 26 60) 4 27 60) 5 28 60) 6 29 3) 7 30 8) 8 31 8) 24 7 ((am_cp (am_cp (am_cp (am_cp (am_cp (am_cp (am_cp M 2 25 60) 3 26 60) 4 27 60) 5 28 60) 6 29 3) 7 30 8) 8 31 8) 1 7)) 1 8)) 1 9)) 1 10))
set_option maxRecDepth 20000 in
theorem tm_X2_copyFrom_24_1 {M : am_M} {Q : am_M → Prop} (h : wp_X2_copyFrom_24_1 M Q) : am_CC 1 4 [.inr (.inl (some 24)), .inr (.inl (some 1))] M (am_QV Q) (fun _ _ => False) := by
  refine ⟨Nat.le_of_ble_eq_true rfl, ?_⟩
  show am_W (am_CC 0) dt_X2_copyFrom 0 0 none (am_QV Q) (am_qx 4 (fun _ _ => False)) (0, 0, [(0, .inr (.inl (some 24))), (1, .inr (.inl (some 1)))], [], M)
  refine am_Wrun 72 (ps := [-128 ≤ (60 : Int) ∧ (60 : Int) ≤ 127, (0 : Int) = 0 ∧ (0 : Int) = 0 ∧ (0 : Int) ≤ 60 ∧ (60 : Int) ≤ 60 ∧ (60 : Int) ≤ 60 ∧ am_cs [] ≤ 8, -128 ≤ (60 : Int) ∧ (60 : Int) ≤ 127, (0 : Int) = 0 ∧ (0 : Int) = 0 ∧ (0 : Int) ≤ 60 ∧ (60 : Int) ≤ 60 ∧ (60 : Int) ≤ 60 ∧ am_cs [] ≤ 8, -128 ≤ (60 : Int) ∧ (60 : Int) ≤ 127, (0 : Int) = 0 ∧ (0 : Int) = 0 ∧ (0 : Int) ≤ 60 ∧ (60 : Int) ≤ 60 ∧ (60 : Int) ≤ 60 ∧ am_cs [] ≤ 8, -128 ≤ (60 : Int) ∧ (60 : Int) ≤ 127, (0 : Int) = 0 ∧ (0 : Int) = 0 ∧ (0 : Int) ≤ 60 ∧ (60 : Int) ≤ 60 ∧ (60 : Int) ≤ 60 ∧ am_cs [] ≤ 8, (0 : Int) = 0 ∧ (0 : Int) = 0 ∧ (0 : Int) ≤ 3 ∧ (3 : Int) ≤ 3 ∧ (3 : Int) ≤ 3 ∧ am_cs [] ≤ 8, -128 ≤ (8 : Int) ∧ (8 : Int) ≤ 127, (0 : Int) = 0 ∧ (0 : Int) = 0 ∧ (0 : Int) ≤ 8 ∧ (8 : Int) ≤ 8 ∧ (8 : Int) ≤ 8 ∧ am_cs [] ≤ 8, -128 ≤ (8 : Int) ∧ (8 : Int) ≤ 127, (0 : Int) = 0 ∧ (0 : Int) = 0 ∧ (0 : Int) ≤ 8 ∧ (8 : Int) ≤ 8 ∧ (8 : Int) ≤ 8 ∧ am_cs [] ≤ 8]) (pc' := 136) (lv' := [(0, .inr (.inl (some 24))), (1, .inr (.inl (some 1)))]) (st' := []) (M' := (am_up (am_up (am_up (am_up (am_cp (am_cp (am_cp (am_cp (am_cp (am_cp (am_cp M 2 25 60) 3 26 60) 4 27 60) 5 28 60) 6 29 3) 7 30 8) 8 31 8) 24 7 ((am_cp (am_cp (am_cp (am_cp (am_cp (am_cp (am_cp M 2 25 60) 3 26 60) 4 27 60) 5 28 60) 6 29 3) 7 30 8) 8 31 8) 1 7)) 24 8 ((am_up (am_cp (am_cp (am_cp (am_cp (am_cp (am_cp (am_cp M 2 25 60) 3 26 60) 4 27 60) 5 28 60) 6 29 3) 7 30 8) 8 31 8) 24 7 ((am_cp (am_cp (am_cp (am_cp (am_cp (am_cp (am_cp M 2 25 60) 3 26 60) 4 27 60) 5 28 60) 6 29 3) 7 30 8) 8 31 8) 1 7)) 1 8)) 24 9 ((am_up (am_up (am_cp (am_cp (am_cp (am_cp (am_cp (am_cp (am_cp M 2 25 60) 3 26 60) 4 27 60) 5 28 60) 6 29 3) 7 30 8) 8 31 8) 24 7 ((am_cp (am_cp (am_cp (am_cp (am_cp (am_cp (am_cp M 2 25 60) 3 26 60) 4 27 60) 5 28 60) 6 29 3) 7 30 8) 8 31 8) 1 7)) 24 8 ((am_up (am_cp (am_cp (am_cp (am_cp (am_cp (am_cp (am_cp M 2 25 60) 3 26 60) 4 27 60) 5 28 60) 6 29 3) 7 30 8) 8 31 8) 24 7 ((am_cp (am_cp (am_cp (am_cp (am_cp (am_cp (am_cp M 2 25 60) 3 26 60) 4 27 60) 5 28 60) 6 29 3) 7 30 8) 8 31 8) 1 7)) 1 8)) 1 9)) 24 10 ((am_up (am_up (am_up (am_cp (am_cp (am_cp (am_cp (am_cp (am_cp (am_cp M 2 25 60) 3 26 60) 4 27 60) 5 28 60) 6 29 3) 7 30 8) 8 31 8) 24 7 ((am_cp (am_cp (am_cp (am_cp (am_cp (am_cp (am_cp M 2 25 60) 3 26 60) 4 27 60) 5 28 60) 6 29 3) 7 30 8) 8 31 8) 1 7)) 24 8 ((am_up (am_cp (am_cp (am_cp (am_cp (am_cp (am_cp (am_cp M 2 25 60) 3 26 60) 4 27 60) 5 28 60) 6 29 3) 7 30 8) 8 31 8) 24 7 ((am_cp (am_cp (am_cp (am_cp (am_cp (am_cp (am_cp M 2 25 60) 3 26 60) 4 27 60) 5 28 60) 6 29 3) 7 30 8) 8 31 8) 1 7)) 1 8)) 24 9 ((am_up (am_up (am_cp (am_cp (am_cp (am_cp (am_cp (am_cp (am_cp M 2 25 60) 3 26 60) 4 27 60) 5 28 60) 6 29 3) 7 30 8) 8 31 8) 24 7 ((am_cp (am_cp (am_cp (am_cp (am_cp (am_cp (am_cp M 2 25 60) 3 26 60) 4 27 60) 5 28 60) 6 29 3) 7 30 8) 8 31 8) 1 7)) 24 8 ((am_up (am_cp (am_cp (am_cp (am_cp (am_cp (am_cp (am_cp M 2 25 60) 3 26 60) 4 27 60) 5 28 60) 6 29 3) 7 30 8) 8 31 8) 24 7 ((am_cp (am_cp (am_cp (am_cp (am_cp (am_cp (am_cp M 2 25 60) 3 26 60) 4 27 60) 5 28 60) 6 29 3) 7 30 8) 8 31 8) 1 7)) 1 8)) 1 9)) 1 10))) rfl ⟨⟨by decide, by decide⟩, ⟨rfl, rfl, by decide, by decide, by decide, by decide⟩, ⟨by decide, by decide⟩, ⟨rfl, rfl, by decide, by decide, by decide, by decide⟩, ⟨by decide, by decide⟩, ⟨rfl, rfl, by decide, by decide, by decide, by decide⟩, ⟨by decide, by decide⟩, ⟨rfl, rfl, by decide, by decide, by decide, by decide⟩, ⟨rfl, rfl, by decide, by decide, by decide, by decide⟩, ⟨by decide, by decide⟩, ⟨rfl, rfl, by decide, by decide, by decide, by decide⟩, ⟨by decide, by decide⟩, ⟨rfl, rfl, by decide, by decide, by decide, by decide⟩, trivial⟩ ?_
  exact am_Wretv rfl rfl h
def wp_X2_copyFrom_32_1 (M : am_M) (Q : am_M → Prop) : Prop := Q (am_up (am_up (am_up (am_up (am_cp (am_cp (am_cp (am_cp (am_cp (am_cp (am_cp M 2 33 60) 3 34 60) 4 35 60) 5 36 60) 6 37 3) 7 38 8) 8 39 8) 32 7 ((am_cp (am_cp (am_cp (am_cp (am_cp (am_cp (am_cp M 2 33 60) 3 34 60) 4 35 60) 5 36 60) 6 37 3) 7 38 8) 8 39 8) 1 7)) 32 8 ((am_up (am_cp (am_cp (am_cp (am_cp (am_cp (am_cp (am_cp M 2 33 60) 3 34 60) 4 35 60) 5 36 60) 6 37 3) 7 38 8) 8 39 8) 32 7 ((am_cp (am_cp (am_cp (am_cp (am_cp (am_cp (am_cp M 2 33 60) 3 34 60) 4 35 60) 5 36 60) 6 37 3) 7 38 8) 8 39 8) 1 7)) 1 8)) 32 9 ((am_up (am_up (am_cp (am_cp (am_cp (am_cp (am_cp (am_cp (am_cp M 2 33 60) 3 34 60) 4 35 60) 5 36 60) 6 37 3) 7 38 8) 8 39 8) 32 7 ((am_cp (am_cp (am_cp (am_cp (am_cp (am_cp (am_cp M 2 33 60) 3 34 60) 4 35 60) 5 36 60) 6 37 3) 7 38 8) 8 39 8) 1 7)) 32 8 ((am_up (am_cp (am_cp (am_cp (am_cp (am_cp (am_cp (am_cp M 2 33 60) 3 34 60) 4 35 60) 5 36 60) 6 37 3) 7 38 8) 8 39 8) 32 7 ((am_cp (am_cp (am_cp (am_cp (am_cp (am_cp (am_cp M 2 33 60) 3 34 60) 4 35 60) 5 36 60) 6 37 3) 7 38 8) 8 39 8) 1 7)) 1 8)) 1 9)) 32 10 ((am_up (am_up (am_up (am_cp (am_cp (am_cp (am_cp (am_cp (am_cp (am_cp M 2 33 60) 3 34 60) 4 35 60) 5 36 60) 6 37 3) 7 38 8) 8 39 8) 32 7 ((am_cp (am_cp (am_cp (am_cp (am_cp (am_cp (am_cp M 2 33 60) 3 34 60) 4 35 60) 5 36 60) 6 37 3) 7 38 8) 8 39 8) 1 7)) 32 8 ((am_up (am_cp (am_cp (am_cp (am_cp (am_cp (am_cp (am_cp M 2 33 60) 3 34 60) 4 35 60) 5 36 60) 6 37 3) 7 38 8) 8 39 8) 32 7 ((am_cp (am_cp (am_cp (am_cp (am_cp (am_cp (am_cp M 2 33 60) 3 34 60) 4 35 60) 5 36 60) 6 37 3) 7 38 8) 8 39 8) 1 7)) 1 8)) 32 9 ((am_up (am_up (am_cp (am_cp (am_cp (am_cp (am_cp (am_cp (am_cp M 2 33 60) 3 34 60) 4 35 60) 5 36 60) 6 37 3) 7 38 8) 8 39 8) 32 7 ((am_cp (am_cp (am_cp (am_cp (am_cp (am_cp (am_cp M 2 33 60) 3 34 60) 4 35 60) 5 36 60) 6 37 3) 7 38 8) 8 39 8) 1 7)) 32 8 ((am_up (am_cp (am_cp (am_cp (am_cp (am_cp (am_cp (am_cp M 2 33 60) 3 34 60) 4 35 60) 5 36 60) 6 37 3) 7 38 8) 8 39 8) 32 7 ((am_cp (am_cp (am_cp (am_cp (am_cp (am_cp (am_cp M 2 33 60) 3 34 60) 4 35 60) 5 36 60) 6 37 3) 7 38 8) 8 39 8) 1 7)) 1 8)) 1 9)) 1 10))
set_option maxRecDepth 20000 in
theorem tm_X2_copyFrom_32_1 {M : am_M} {Q : am_M → Prop} (h : wp_X2_copyFrom_32_1 M Q) : am_CC 1 4 [.inr (.inl (some 32)), .inr (.inl (some 1))] M (am_QV Q) (fun _ _ => False) := by
  refine ⟨Nat.le_of_ble_eq_true rfl, ?_⟩
  show am_W (am_CC 0) dt_X2_copyFrom 0 0 none (am_QV Q) (am_qx 4 (fun _ _ => False)) (0, 0, [(0, .inr (.inl (some 32))), (1, .inr (.inl (some 1)))], [], M)
  refine am_Wrun 72 (ps := [-128 ≤ (60 : Int) ∧ (60 : Int) ≤ 127, (0 : Int) = 0 ∧ (0 : Int) = 0 ∧ (0 : Int) ≤ 60 ∧ (60 : Int) ≤ 60 ∧ (60 : Int) ≤ 60 ∧ am_cs [] ≤ 8, -128 ≤ (60 : Int) ∧ (60 : Int) ≤ 127, (0 : Int) = 0 ∧ (0 : Int) = 0 ∧ (0 : Int) ≤ 60 ∧ (60 : Int) ≤ 60 ∧ (60 : Int) ≤ 60 ∧ am_cs [] ≤ 8, -128 ≤ (60 : Int) ∧ (60 : Int) ≤ 127, (0 : Int) = 0 ∧ (0 : Int) = 0 ∧ (0 : Int) ≤ 60 ∧ (60 : Int) ≤ 60 ∧ (60 : Int) ≤ 60 ∧ am_cs [] ≤ 8, -128 ≤ (60 : Int) ∧ (60 : Int) ≤ 127, (0 : Int) = 0 ∧ (0 : Int) = 0 ∧ (0 : Int) ≤ 60 ∧ (60 : Int) ≤ 60 ∧ (60 : Int) ≤ 60 ∧ am_cs [] ≤ 8, (0 : Int) = 0 ∧ (0 : Int) = 0 ∧ (0 : Int) ≤ 3 ∧ (3 : Int) ≤ 3 ∧ (3 : Int) ≤ 3 ∧ am_cs [] ≤ 8, -128 ≤ (8 : Int) ∧ (8 : Int) ≤ 127, (0 : Int) = 0 ∧ (0 : Int) = 0 ∧ (0 : Int) ≤ 8 ∧ (8 : Int) ≤ 8 ∧ (8 : Int) ≤ 8 ∧ am_cs [] ≤ 8, -128 ≤ (8 : Int) ∧ (8 : Int) ≤ 127, (0 : Int) = 0 ∧ (0 : Int) = 0 ∧ (0 : Int) ≤ 8 ∧ (8 : Int) ≤ 8 ∧ (8 : Int) ≤ 8 ∧ am_cs [] ≤ 8]) (pc' := 136) (lv' := [(0, .inr (.inl (some 32))), (1, .inr (.inl (some 1)))]) (st' := []) (M' := (am_up (am_up (am_up (am_up (am_cp (am_cp (am_cp (am_cp (am_cp (am_cp (am_cp M 2 33 60) 3 34 60) 4 35 60) 5 36 60) 6 37 3) 7 38 8) 8 39 8) 32 7 ((am_cp (am_cp (am_cp (am_cp (am_cp (am_cp (am_cp M 2 33 60) 3 34 60) 4 35 60) 5 36 60) 6 37 3) 7 38 8) 8 39 8) 1 7)) 32 8 ((am_up (am_cp (am_cp (am_cp (am_cp (am_cp (am_cp (am_cp M 2 33 60) 3 34 60) 4 35 60) 5 36 60) 6 37 3) 7 38 8) 8 39 8) 32 7 ((am_cp (am_cp (am_cp (am_cp (am_cp (am_cp (am_cp M 2 33 60) 3 34 60) 4 35 60) 5 36 60) 6 37 3) 7 38 8) 8 39 8) 1 7)) 1 8)) 32 9 ((am_up (am_up (am_cp (am_cp (am_cp (am_cp (am_cp (am_cp (am_cp M 2 33 60) 3 34 60) 4 35 60) 5 36 60) 6 37 3) 7 38 8) 8 39 8) 32 7 ((am_cp (am_cp (am_cp (am_cp (am_cp (am_cp (am_cp M 2 33 60) 3 34 60) 4 35 60) 5 36 60) 6 37 3) 7 38 8) 8 39 8) 1 7)) 32 8 ((am_up (am_cp (am_cp (am_cp (am_cp (am_cp (am_cp (am_cp M 2 33 60) 3 34 60) 4 35 60) 5 36 60) 6 37 3) 7 38 8) 8 39 8) 32 7 ((am_cp (am_cp (am_cp (am_cp (am_cp (am_cp (am_cp M 2 33 60) 3 34 60) 4 35 60) 5 36 60) 6 37 3) 7 38 8) 8 39 8) 1 7)) 1 8)) 1 9)) 32 10 ((am_up (am_up (am_up (am_cp (am_cp (am_cp (am_cp (am_cp (am_cp (am_cp M 2 33 60) 3 34 60) 4 35 60) 5 36 60) 6 37 3) 7 38 8) 8 39 8) 32 7 ((am_cp (am_cp (am_cp (am_cp (am_cp (am_cp (am_cp M 2 33 60) 3 34 60) 4 35 60) 5 36 60) 6 37 3) 7 38 8) 8 39 8) 1 7)) 32 8 ((am_up (am_cp (am_cp (am_cp (am_cp (am_cp (am_cp (am_cp M 2 33 60) 3 34 60) 4 35 60) 5 36 60) 6 37 3) 7 38 8) 8 39 8) 32 7 ((am_cp (am_cp (am_cp (am_cp (am_cp (am_cp (am_cp M 2 33 60) 3 34 60) 4 35 60) 5 36 60) 6 37 3) 7 38 8) 8 39 8) 1 7)) 1 8)) 32 9 ((am_up (am_up (am_cp (am_cp (am_cp (am_cp (am_cp (am_cp (am_cp M 2 33 60) 3 34 60) 4 35 60) 5 36 60) 6 37 3) 7 38 8) 8 39 8) 32 7 ((am_cp (am_cp (am_cp (am_cp (am_cp (am_cp (am_cp M 2 33 60) 3 34 60) 4 35 60) 5 36 60) 6 37 3) 7 38 8) 8 39 8) 1 7)) 32 8 ((am_up (am_cp (am_cp (am_cp (am_cp (am_cp (am_cp (am_cp M 2 33 60) 3 34 60) 4 35 60) 5 36 60) 6 37 3) 7 38 8) 8 39 8) 32 7 ((am_cp (am_cp (am_cp (am_cp (am_cp (am_cp (am_cp M 2 33 60) 3 34 60) 4 35 60) 5 36 60) 6 37 3) 7 38 8) 8 39 8) 1 7)) 1 8)) 1 9)) 1 10))) rfl ⟨⟨by decide, by decide⟩, ⟨rfl, rfl, by decide, by decide, by decide, by decide⟩, ⟨by decide, by decide⟩, ⟨rfl, rfl, by decide, by decide, by decide, by decide⟩, ⟨by decide, by decide⟩, ⟨rfl, rfl, by decide, by decide, by decide, by decide⟩, ⟨by decide, by decide⟩, ⟨rfl, rfl, by decide, by decide, by decide, by decide⟩, ⟨rfl, rfl, by decide, by decide, by decide, by decide⟩, ⟨by decide, by decide⟩, ⟨rfl, rfl, by decide, by decide, by decide, by decide⟩, ⟨by decide, by decide⟩, ⟨rfl, rfl, by decide, by decide, by decide, by decide⟩, trivial⟩ ?_
  exact am_Wretv rfl rfl h
def wp_X2_copyFrom_40_1 (M : am_M) (Q : am_M → Prop) : Prop := Q (am_up (am_up (am_up (am_up (am_cp (am_cp (am_cp (am_cp (am_cp (am_cp (am_cp M 2 41 60) 3 42 60) 4 43 60) 5 44 60) 6 45 3) 7 46 8) 8 47 8) 40 7 ((am_cp (am_cp (am_cp (am_cp (am_cp (am_cp (am_cp M 2 41 60) 3 42 60) 4 43 60) 5 44 60) 6 45 3) 7 46 8) 8 47 8) 1 7)) 40 8 ((am_up (am_cp (am_cp (am_cp (am_cp (am_cp (am_cp (am_cp M 2 41 60) 3 42 60) 4 43 60) 5 44 60) 6 45 3) 7 46 8) 8 47 8) 40 7 ((am_cp (am_cp (am_cp (am_cp (am_cp (am_cp (am_cp M 2 41 60) 3 42 60) 4 43 60) 5 44 60) 6 45 3) 7 46 8) 8 47 8) 1 7)) 1 8)) 40 9 ((am_up (am_up (am_cp (am_cp (am_cp (am_cp (am_cp (am_cp (am_cp M 2 41 60) 3 42 60) 4 43 60) 5 44 60) 6 45 3) 7 46 8) 8 47 8) 40 7 ((am_cp (am_cp (am_cp (am_cp (am_cp (am_cp (am_cp M 2 41 60) 3 42 60) 4 43 60) 5 44 60) 6 45 3) 7 46 8) 8 47 8) 1 7)) 40 8 ((am_up (am_cp (am_cp (am_cp (am_cp (am_cp (am_cp (am_cp M 2 41 60) 3 42 60) 4 43 60) 5 44 60) 6 45 3) 7 46 8) 8 47 8) 40 7 ((am_cp (am_cp (am_cp (am_cp (am_cp (am_cp (am_cp M 2 41 60) 3 42 60) 4 43 60) 5 44 60) 6 45 3) 7 46 8) 8 47 8) 1 7)) 1 8)) 1 9)) 40 10 ((am_up (am_up (am_up (am_cp (am_cp (am_cp (am_cp (am_cp (am_cp (am_cp M 2 41 60) 3 42 60) 4 43 60) 5 44 60) 6 45 3) 7 46 8) 8 47 8) 40 7 ((am_cp (am_cp (am_cp (am_cp (am_cp (am_cp (am_cp M 2 41 60) 3 42 60) 4 43 60) 5 44 60) 6 45 3) 7 46 8) 8 47 8) 1 7)) 40 8 ((am_up (am_cp (am_cp (am_cp (am_cp (am_cp (am_cp (am_cp M 2 41 60) 3 42 60) 4 43 60) 5 44 60) 6 45 3) 7 46 8) 8 47 8) 40 7 ((am_cp (am_cp (am_cp (am_cp (am_cp (am_cp (am_cp M 2 41 60) 3 42 60) 4 43 60) 5 44 60) 6 45 3) 7 46 8) 8 47 8) 1 7)) 1 8)) 40 9 ((am_up (am_up (am_cp (am_cp (am_cp (am_cp (am_cp (am_cp (am_cp M 2 41 60) 3 42 60) 4 43 60) 5 44 60) 6 45 3) 7 46 8) 8 47 8) 40 7 ((am_cp (am_cp (am_cp (am_cp (am_cp (am_cp (am_cp M 2 41 60) 3 42 60) 4 43 60) 5 44 60) 6 45 3) 7 46 8) 8 47 8) 1 7)) 40 8 ((am_up (am_cp (am_cp (am_cp (am_cp (am_cp (am_cp (am_cp M 2 41 60) 3 42 60) 4 43 60) 5 44 60) 6 45 3) 7 46 8) 8 47 8) 40 7 ((am_cp (am_cp (am_cp (am_cp (am_cp (am_cp (am_cp M 2 41 60) 3 42 60) 4 43 60) 5 44 60) 6 45 3) 7 46 8) 8 47 8) 1 7)) 1 8)) 1 9)) 1 10))
set_option maxRecDepth 20000 in
theorem tm_X2_copyFrom_40_1 {M : am_M} {Q : am_M → Prop} (h : wp_X2_copyFrom_40_1 M Q) : am_CC 1 4 [.inr (.inl (some 40)), .inr (.inl (some 1))] M (am_QV Q) (fun _ _ => False) := by
  refine ⟨Nat.le_of_ble_eq_true rfl, ?_⟩
  show am_W (am_CC 0) dt_X2_copyFrom 0 0 none (am_QV Q) (am_qx 4 (fun _ _ => False)) (0, 0, [(0, .inr (.inl (some 40))), (1, .inr (.inl (some 1)))], [], M)
  refine am_Wrun 72 (ps := [-128 ≤ (60 : Int) ∧ (60 : Int) ≤ 127, (0 : Int) = 0 ∧ (0 : Int) = 0 ∧ (0 : Int) ≤ 60 ∧ (60 : Int) ≤ 60 ∧ (60 : Int) ≤ 60 ∧ am_cs [] ≤ 8, -128 ≤ (60 : Int) ∧ (60 : Int) ≤ 127, (0 : Int) = 0 ∧ (0 : Int) = 0 ∧ (0 : Int) ≤ 60 ∧ (60 : Int) ≤ 60 ∧ (60 : Int) ≤ 60 ∧ am_cs [] ≤ 8, -128 ≤ (60 : Int) ∧ (60 : Int) ≤ 127, (0 : Int) = 0 ∧ (0 : Int) = 0 ∧ (0 : Int) ≤ 60 ∧ (60 : Int) ≤ 60 ∧ (60 : Int) ≤ 60 ∧ am_cs [] ≤ 8, -128 ≤ (60 : Int) ∧ (60 : Int) ≤ 127, (0 : Int) = 0 ∧ (0 : Int) = 0 ∧ (0 : Int) ≤ 60 ∧ (60 : Int) ≤ 60 ∧ (60 : Int) ≤ 60 ∧ am_cs [] ≤ 8, (0 : Int) = 0 ∧ (0 : Int) = 0 ∧ (0 : Int) ≤ 3 ∧ (3 : Int) ≤ 3 ∧ (3 : Int) ≤ 3 ∧ am_cs [] ≤ 8, -128 ≤ (8 : Int) ∧ (8 : Int) ≤ 127, (0 : Int) = 0 ∧ (0 : Int) = 0 ∧ (0 : Int) ≤ 8 ∧ (8 : Int) ≤ 8 ∧ (8 : Int) ≤ 8 ∧ am_cs [] ≤ 8, -128 ≤ (8 : Int) ∧ (8 : Int) ≤ 127, (0 : Int) = 0 ∧ (0 : Int) = 0 ∧ (0 : Int) ≤ 8 ∧ (8 : Int) ≤ 8 ∧ (8 : Int) ≤ 8 ∧ am_cs [] ≤ 8]) (pc' := 136) (lv' := [(0, .inr (.inl (some 40))), (1, .inr (.inl (some 1)))]) (st' := []) (M' := (am_up (am_up (am_up (am_up (am_cp (am_cp (am_cp (am_cp (am_cp (am_cp (am_cp M 2 41 60) 3 42 60) 4 43 60) 5 44 60) 6 45 3) 7 46 8) 8 47 8) 40 7 ((am_cp (am_cp (am_cp (am_cp (am_cp (am_cp (am_cp M 2 41 60) 3 42 60) 4 43 60) 5 44 60) 6 45 3) 7 46 8) 8 47 8) 1 7)) 40 8 ((am_up (am_cp (am_cp (am_cp (am_cp (am_cp (am_cp (am_cp M 2 41 60) 3 42 60) 4 43 60) 5 44 60) 6 45 3) 7 46 8) 8 47 8) 40 7 ((am_cp (am_cp (am_cp (am_cp (am_cp (am_cp (am_cp M 2 41 60) 3 42 60) 4 43 60) 5 44 60) 6 45 3) 7 46 8) 8 47 8) 1 7)) 1 8)) 40 9 ((am_up (am_up (am_cp (am_cp (am_cp (am_cp (am_cp (am_cp (am_cp M 2 41 60) 3 42 60) 4 43 60) 5 44 60) 6 45 3) 7 46 8) 8 47 8) 40 7 ((am_cp (am_cp (am_cp (am_cp (am_cp (am_cp (am_cp M 2 41 60) 3 42 60) 4 43 60) 5 44 60) 6 45 3) 7 46 8) 8 47 8) 1 7)) 40 8 ((am_up (am_cp (am_cp (am_cp (am_cp (am_cp (am_cp (am_cp M 2 41 60) 3 42 60) 4 43 60) 5 44 60) 6 45 3) 7 46 8) 8 47 8) 40 7 ((am_cp (am_cp (am_cp (am_cp (am_cp (am_cp (am_cp M 2 41 60) 3 42 60) 4 43 60) 5 44 60) 6 45 3) 7 46 8) 8 47 8) 1 7)) 1 8)) 1 9)) 40 10 ((am_up (am_up (am_up (am_cp (am_cp (am_cp (am_cp (am_cp (am_cp (am_cp M 2 41 60) 3 42 60) 4 43 60) 5 44 60) 6 45 3) 7 46 8) 8 47 8) 40 7 ((am_cp (am_cp (am_cp (am_cp (am_cp (am_cp (am_cp M 2 41 60) 3 42 60) 4 43 60) 5 44 60) 6 45 3) 7 46 8) 8 47 8) 1 7)) 40 8 ((am_up (am_cp (am_cp (am_cp (am_cp (am_cp (am_cp (am_cp M 2 41 60) 3 42 60) 4 43 60) 5 44 60) 6 45 3) 7 46 8) 8 47 8) 40 7 ((am_cp (am_cp (am_cp (am_cp (am_cp (am_cp (am_cp M 2 41 60) 3 42 60) 4 43 60) 5 44 60) 6 45 3) 7 46 8) 8 47 8) 1 7)) 1 8)) 40 9 ((am_up (am_up (am_cp (am_cp (am_cp (am_cp (am_cp (am_cp (am_cp M 2 41 60) 3 42 60) 4 43 60) 5 44 60) 6 45 3) 7 46 8) 8 47 8) 40 7 ((am_cp (am_cp (am_cp (am_cp (am_cp (am_cp (am_cp M 2 41 60) 3 42 60) 4 43 60) 5 44 60) 6 45 3) 7 46 8) 8 47 8) 1 7)) 40 8 ((am_up (am_cp (am_cp (am_cp (am_cp (am_cp (am_cp (am_cp M 2 41 60) 3 42 60) 4 43 60) 5 44 60) 6 45 3) 7 46 8) 8 47 8) 40 7 ((am_cp (am_cp (am_cp (am_cp (am_cp (am_cp (am_cp M 2 41 60) 3 42 60) 4 43 60) 5 44 60) 6 45 3) 7 46 8) 8 47 8) 1 7)) 1 8)) 1 9)) 1 10))) rfl ⟨⟨by decide, by decide⟩, ⟨rfl, rfl, by decide, by decide, by decide, by decide⟩, ⟨by decide, by decide⟩, ⟨rfl, rfl, by decide, by decide, by decide, by decide⟩, ⟨by decide, by decide⟩, ⟨rfl, rfl, by decide, by decide, by decide, by decide⟩, ⟨by decide, by decide⟩, ⟨rfl, rfl, by decide, by decide, by decide, by decide⟩, ⟨rfl, rfl, by decide, by decide, by decide, by decide⟩, ⟨by decide, by decide⟩, ⟨rfl, rfl, by decide, by decide, by decide, by decide⟩, ⟨by decide, by decide⟩, ⟨rfl, rfl, by decide, by decide, by decide, by decide⟩, trivial⟩ ?_
  exact am_Wretv rfl rfl h
def wp_X2_copyFrom_48_1 (M : am_M) (Q : am_M → Prop) : Prop := Q (am_up (am_up (am_up (am_up (am_cp (am_cp (am_cp (am_cp (am_cp (am_cp (am_cp M 2 49 60) 3 50 60) 4 51 60) 5 52 60) 6 53 3) 7 54 8) 8 55 8) 48 7 ((am_cp (am_cp (am_cp (am_cp (am_cp (am_cp (am_cp M 2 49 60) 3 50 60) 4 51 60) 5 52 60) 6 53 3) 7 54 8) 8 55 8) 1 7)) 48 8 ((am_up (am_cp (am_cp (am_cp (am_cp (am_cp (am_cp (am_cp M 2 49 60) 3 50 60) 4 51 60) 5 52 60) 6 53 3) 7 54 8) 8 55 8) 48 7 ((am_cp (am_cp (am_cp (am_cp (am_cp (am_cp (am_cp M 2 49 60) 3 50 60) 4 51 60) 5 52 60) 6 53 3) 7 54 8) 8 55 8) 1 7)) 1 8)) 48 9 ((am_up (am_up (am_cp (am_cp (am_cp (am_cp (am_cp (am_cp (am_cp M 2 49 60) 3 50 60) 4 51 60) 5 52 60) 6 53 3) 7 54 8) 8 55 8) 48 7 ((am_cp (am_cp (am_cp (am_cp (am_cp (am_cp (am_cp M 2 49 60) 3 50 60) 4 51 60) 5 52 60) 6 53 3) 7 54 8) 8 55 8) 1 7)) 48 8 ((am_up (am_cp (am_cp (am_cp (am_cp (am_cp (am_cp (am_cp M 2 49 60) 3 50 60) 4 51 60) 5 52 60) 6 53 3) 7 54 8) 8 55 8) 48 7 ((am_cp (am_cp (am_cp (am_cp (am_cp (am_cp (am_cp M 2 49 60) 3 50 60) 4 51 60) 5 52 60) 6 53 3) 7 54 8) 8 55 8) 1 7)) 1 8)) 1 9)) 48 10 ((am_up (am_up (am_up (am_cp (am_cp (am_cp (am_cp (am_cp (am_cp (am_cp M 2 49 60) 3 50 60) 4 51 60) 5 52 60) 6 53 3) 7 54 8) 8 55 8) 48 7 ((am_cp (am_cp (am_cp (am_cp (am_cp (am_cp (am_cp M 2 49 60) 3 50 60) 4 51 60) 5 52 60) 6 53 3) 7 54 8) 8 55 8) 1 7)) 48 8 ((am_up (am_cp (am_cp (am_cp (am_cp (am_cp (am_cp (am_cp M 2 49 60) 3 50 60) 4 51 60) 5 52 60) 6 53 3) 7 54 8) 8 55 8) 48 7 ((am_cp (am_cp (am_cp (am_cp (am_cp (am_cp (am_cp M 2 49 60) 3 50 60) 4 51 60) 5 52 60) 6 53 3) 7 54 8) 8 55 8) 1 7)) 1 8)) 48 9 ((am_up (am_up (am_cp (am_cp (am_cp (am_cp (am_cp (am_cp (am_cp M 2 49 60) 3 50 60) 4 51 60) 5 52 60) 6 53 3) 7 54 8) 8 55 8) 48 7 ((am_cp (am_cp (am_cp (am_cp (am_cp (am_cp (am_cp M 2 49 60) 3 50 60) 4 51 60) 5 52 60) 6 53 3) 7 54 8) 8 55 8) 1 7)) 48 8 ((am_up (am_cp (am_cp (am_cp (am_cp (am_cp (am_cp (am_cp M 2 49 60) 3 50 60) 4 51 60) 5 52 60) 6 53 3) 7 54 8) 8 55 8) 48 7 ((am_cp (am_cp (am_cp (am_cp (am_cp (am_cp (am_cp M 2 49 60) 3 50 60) 4 51 60) 5 52 60) 6 53 3) 7 54 8) 8 55 8) 1 7)) 1 8)) 1 9)) 1 10))
set_option maxRecDepth 20000 in
theorem tm_X2_copyFrom_48_1 {M : am_M} {Q : am_M → Prop} (h : wp_X2_copyFrom_48_1 M Q) : am_CC 1 4 [.inr (.inl (some 48)), .inr (.inl (some 1))] M (am_QV Q) (fun _ _ => False) := by
  refine ⟨Nat.le_of_ble_eq_true rfl, ?_⟩
  show am_W (am_CC 0) dt_X2_copyFrom 0 0 none (am_QV Q) (am_qx 4 (fun _ _ => False)) (0, 0, [(0, .inr (.inl (some 48))), (1, .inr (.inl (some 1)))], [], M)
  refine am_Wrun 72 (ps := [-128 ≤ (60 : Int) ∧ (60 : Int) ≤ 127, (0 : Int) = 0 ∧ (0 : Int) = 0 ∧ (0 : Int) ≤ 60 ∧ (60 : Int) ≤ 60 ∧ (60 : Int) ≤ 60 ∧ am_cs [] ≤ 8, -128 ≤ (60 : Int) ∧ (60 : Int) ≤ 127, (0 : Int) = 0 ∧ (0 : Int) = 0 ∧ (0 : Int) ≤ 60 ∧ (60 : Int) ≤ 60 ∧ (60 : Int) ≤ 60 ∧ am_cs [] ≤ 8, -128 ≤ (60 : Int) ∧ (60 : Int) ≤ 127, (0 : Int) = 0 ∧ (0 : Int) = 0 ∧ (0 : Int) ≤ 60 ∧ (60 : Int) ≤ 60 ∧ (60 : Int) ≤ 60 ∧ am_cs [] ≤ 8, -128 ≤ (60 : Int) ∧ (60 : Int) ≤ 127, (0 : Int) = 0 ∧ (0 : Int) = 0 ∧ (0 : Int) ≤ 60 ∧ (60 : Int) ≤ 60 ∧ (60 : Int) ≤ 60 ∧ am_cs [] ≤ 8, (0 : Int) = 0 ∧ (0 : Int) = 0 ∧ (0 : Int) ≤ 3 ∧ (3 : Int) ≤ 3 ∧ (3 : Int) ≤ 3 ∧ am_cs [] ≤ 8, -128 ≤ (8 : Int) ∧ (8 : Int) ≤ 127, (0 : Int) = 0 ∧ (0 : Int) = 0 ∧ (0 : Int) ≤ 8 ∧ (8 : Int) ≤ 8 ∧ (8 : Int) ≤ 8 ∧ am_cs [] ≤ 8, -128 ≤ (8 : Int) ∧ (8 : Int) ≤ 127, (0 : Int) = 0 ∧ (0 : Int) = 0 ∧ (0 : Int) ≤ 8 ∧ (8 : Int) ≤ 8 ∧ (8 : Int) ≤ 8 ∧ am_cs [] ≤ 8]) (pc' := 136) (lv' := [(0, .inr (.inl (some 48))), (1, .inr (.inl (some 1)))]) (st' := []) (M' := (am_up (am_up (am_up (am_up (am_cp (am_cp (am_cp (am_cp (am_cp (am_cp (am_cp M 2 49 60) 3 50 60) 4 51 60) 5 52 60) 6 53 3) 7 54 8) 8 55 8) 48 7 ((am_cp (am_cp (am_cp (am_cp (am_cp (am_cp (am_cp M 2 49 60) 3 50 60) 4 51 60) 5 52 60) 6 53 3) 7 54 8) 8 55 8) 1 7)) 48 8 ((am_up (am_cp (am_cp (am_cp (am_cp (am_cp (am_cp (am_cp M 2 49 60) 3 50 60) 4 51 60) 5 52 60) 6 53 3) 7 54 8) 8 55 8) 48 7 ((am_cp (am_cp (am_cp (am_cp (am_cp (am_cp (am_cp M 2 49 60) 3 50 60) 4 51 60) 5 52 60) 6 53 3) 7 54 8) 8 55 8) 1 7)) 1 8)) 48 9 ((am_up (am_up (am_cp (am_cp (am_cp (am_cp (am_cp (am_cp (am_cp M 2 49 60) 3 50 60) 4 51 60) 5 52 60) 6 53 3) 7 54 8) 8 55 8) 48 7 ((am_cp (am_cp (am_cp (am_cp (am_cp (am_cp (am_cp M 2 49 60) 3 50 60) 4 51 60) 5 52 60) 6 53 3) 7 54 8) 8 55 8) 1 7)) 48 8 ((am_up (am_cp (am_cp (am_cp (am_cp (am_cp (am_cp (am_cp M 2 49 60) 3 50 60) 4 51 60) 5 52 60) 6 53 3) 7 54 8) 8 55 8) 48 7 ((am_cp (am_cp (am_cp (am_cp (am_cp (am_cp (am_cp M 2 49 60) 3 50 60) 4 51 60) 5 52 60) 6 53 3) 7 54 8) 8 55 8) 1 7)) 1 8)) 1 9)) 48 10 ((am_up (am_up (am_up (am_cp (am_cp (am_cp (am_cp (am_cp (am_cp (am_cp M 2 49 60) 3 50 60) 4 51 60) 5 52 60) 6 53 3) 7 54 8) 8 55 8) 48 7 ((am_cp (am_cp (am_cp (am_cp (am_cp (am_cp (am_cp M 2 49 60) 3 50 60) 4 51 60) 5 52 60) 6 53 3) 7 54 8) 8 55 8) 1 7)) 48 8 ((am_up (am_cp (am_cp (am_cp (am_cp (am_cp (am_cp (am_cp M 2 49 60) 3 50 60) 4 51 60) 5 52 60) 6 53 3) 7 54 8) 8 55 8) 48 7 ((am_cp (am_cp (am_cp (am_cp (am_cp (am_cp (am_cp M 2 49 60) 3 50 60) 4 51 60) 5 52 60) 6 53 3) 7 54 8) 8 55 8) 1 7)) 1 8)) 48 9 ((am_up (am_up (am_cp (am_cp (am_cp (am_cp (am_cp (am_cp (am_cp M 2 49 60) 3 50 60) 4 51 60) 5 52 60) 6 53 3) 7 54 8) 8 55 8) 48 7 ((am_cp (am_cp (am_cp (am_cp (am_cp (am_cp (am_cp M 2 49 60) 3 50 60) 4 51 60) 5 52 60) 6 53 3) 7 54 8) 8 55 8) 1 7)) 48 8 ((am_up (am_cp (am_cp (am_cp (am_cp (am_cp (am_cp (am_cp M 2 49 60) 3 50 60) 4 51 60) 5 52 60) 6 53 3) 7 54 8) 8 55 8) 48 7 ((am_cp (am_cp (am_cp (am_cp (am_cp (am_cp (am_cp M 2 49 60) 3 50 60) 4 51 60) 5 52 60) 6 53 3) 7 54 8) 8 55 8) 1 7)) 1 8)) 1 9)) 1 10))) rfl ⟨⟨by decide, by decide⟩, ⟨rfl, rfl, by decide, by decide, by decide, by decide⟩, ⟨by decide, by decide⟩, ⟨rfl, rfl, by decide, by decide, by decide, by decide⟩, ⟨by decide, by decide⟩, ⟨rfl, rfl, by decide, by decide, by decide, by decide⟩, ⟨by decide, by decide⟩, ⟨rfl, rfl, by decide, by decide, by decide, by decide⟩, ⟨rfl, rfl, by decide, by decide, by decide, by decide⟩, ⟨by decide, by decide⟩, ⟨rfl, rfl, by decide, by decide, by decide, by decide⟩, ⟨by decide, by decide⟩, ⟨rfl, rfl, by decide, by decide, by decide, by decide⟩, trivial⟩ ?_
  exact am_Wretv rfl rfl h
def wp_X2_copyFrom_56_1 (M : am_M) (Q : am_M → Prop) : Prop := Q (am_up (am_up (am_up (am_up (am_cp (am_cp (am_cp (am_cp (am_cp (am_cp (am_cp M 2 57 60) 3 58 60) 4 59 60) 5 60 60) 6 61 3) 7 62 8) 8 63 8) 56 7 ((am_cp (am_cp (am_cp (am_cp (am_cp (am_cp (am_cp M 2 57 60) 3 58 60) 4 59 60) 5 60 60) 6 61 3) 7 62 8) 8 63 8) 1 7)) 56 8 ((am_up (am_cp (am_cp (am_cp (am_cp (am_cp (am_cp (am_cp M 2 57 60) 3 58 60) 4 59 60) 5 60 60) 6 61 3) 7 62 8) 8 63 8) 56 7 ((am_cp (am_cp (am_cp (am_cp (am_cp (am_cp (am_cp M 2 57 60) 3 58 60) 4 59 60) 5 60 60) 6 61 3) 7 62 8) 8 63 8) 1 7)) 1 8)) 56 9 ((am_up (am_up (am_cp (am_cp (am_cp (am_cp (am_cp (am_cp (am_cp M 2 57 60) 3 58 60) 4 59 60) 5 60 60) 6 61 3) 7 62 8) 8 63 8) 56 7 ((am_cp (am_cp (am_cp (am_cp (am_cp (am_cp (am_cp M 2 57 60) 3 58 60) 4 59 60) 5 60 60) 6 61 3) 7 62 8) 8 63 8) 1 7)) 56 8 ((am_up (am_cp (am_cp (am_cp (am_cp (am_cp (am_cp (am_cp M 2 57 60) 3 58 60) 4 59 60) 5 60 60) 6 61 3) 7 62 8) 8 63 8) 56 7 ((am_cp (am_cp (am_cp (am_cp (am_cp (am_cp (am_cp M 2 57 60) 3 58 60) 4 59 60) 5 60 60) 6 61 3) 7 62 8) 8 63 8) 1 7)) 1 8)) 1 9)) 56 10 ((am_up (am_up (am_up (am_cp (am_cp (am_cp (am_cp (am_cp (am_cp (am_cp M 2 57 60) 3 58 60) 4 59 60) 5 60 60) 6 61 3) 7 62 8) 8 63 8) 56 7 ((am_cp (am_cp (am_cp (am_cp (am_cp (am_cp (am_cp M 2 57 60) 3 58 60) 4 59 60) 5 60 60) 6 61 3) 7 62 8) 8 63 8) 1 7)) 56 8 ((am_up (am_cp (am_cp (am_cp (am_cp (am_cp (am_cp (am_cp M 2 57 60) 3 58 60) 4 59 60) 5 60 60) 6 61 3) 7 62 8) 8 63 8) 56 7 ((am_cp (am_cp (am_cp (am_cp (am_cp (am_cp (am_cp M 2 57 60) 3 58 60) 4 59 60) 5 60 60) 6 61 3) 7 62 8) 8 63 8) 1 7)) 1 8)) 56 9 ((am_up (am_up (am_cp (am_cp (am_cp (am_cp (am_cp (am_cp (am_cp M 2 57 60) 3 58 60) 4 59 60) 5 60 60) 6 61 3) 7 62 8) 8 63 8) 56 7 ((am_cp (am_cp (am_cp (am_cp (am_cp (am_cp (am_cp M 2 57 60) 3 58 60) 4 59 60) 5 60 60) 6 61 3) 7 62 8) 8 63 8) 1 7)) 56 8 ((am_up (am_cp (am_cp (am_cp (am_cp (am_cp (am_cp (am_cp M 2 57 60) 3 58 60) 4 59 60) 5 60 60) 6 61 3) 7 62 8) 8 63 8) 56 7 ((am_cp (am_cp (am_cp (am_cp (am_cp (am_cp (am_cp M 2 57 60) 3 58 60) 4 59 60) 5 60 60) 6 61 3) 7 62 8) 8 63 8) 1 7)) 1 8)) 1 9)) 1 10))
set_option maxRecDepth 20000 in
theorem tm_X2_copyFrom_56_1 {M : am_M} {Q : am_M → Prop} (h : wp_X2_copyFrom_56_1 M Q) : am_CC 1 4 [.inr (.inl (some 56)), .inr (.inl (some 1))] M (am_QV Q) (fun _ _ => False) := by
  refine ⟨Nat.le_of_ble_eq_true rfl, ?_⟩
  show am_W (am_CC 0) dt_X2_copyFrom 0 0 none (am_QV Q) (am_qx 4 (fun _ _ => False)) (0, 0, [(0, .inr (.inl (some 56))), (1, .inr (.inl (some 1)))], [], M)
  refine am_Wrun 72 (ps := [-128 ≤ (60 : Int) ∧ (60 : Int) ≤ 127, (0 : Int) = 0 ∧ (0 : Int) = 0 ∧ (0 : Int) ≤ 60 ∧ (60 : Int) ≤ 60 ∧ (60 : Int) ≤ 60 ∧ am_cs [] ≤ 8, -128 ≤ (60 : Int) ∧ (60 : Int) ≤ 127, (0 : Int) = 0 ∧ (0 : Int) = 0 ∧ (0 : Int) ≤ 60 ∧ (60 : Int) ≤ 60 ∧ (60 : Int) ≤ 60 ∧ am_cs [] ≤ 8, -128 ≤ (60 : Int) ∧ (60 : Int) ≤ 127, (0 : Int) = 0 ∧ (0 : Int) = 0 ∧ (0 : Int) ≤ 60 ∧ (60 : Int) ≤ 60 ∧ (60 : Int) ≤ 60 ∧ am_cs [] ≤ 8, -128 ≤ (60 : Int) ∧ (60 : Int) ≤ 127, (0 : Int) = 0 ∧ (0 : Int) = 0 ∧ (0 : Int) ≤ 60 ∧ (60 : Int) ≤ 60 ∧ (60 : Int) ≤ 60 ∧ am_cs [] ≤ 8, (0 : Int) = 0 ∧ (0 : Int) = 0 ∧ (0 : Int) ≤ 3 ∧ (3 : Int) ≤ 3 ∧ (3 : Int) ≤ 3 ∧ am_cs [] ≤ 8, -128 ≤ (8 : Int) ∧ (8 : Int) ≤ 127, (0 : Int) = 0 ∧ (0 : Int) = 0 ∧ (0 : Int) ≤ 8 ∧ (8 : Int) ≤ 8 ∧ (8 : Int) ≤ 8 ∧ am_cs [] ≤ 8, -128 ≤ (8 : Int) ∧ (8 : Int) ≤ 127, (0 : Int) = 0 ∧ (0 : Int) = 0 ∧ (0 : Int) ≤ 8 ∧ (8 : Int) ≤ 8 ∧ (8 : Int) ≤ 8 ∧ am_cs [] ≤ 8]) (pc' := 136) (lv' := [(0, .inr (.inl (some 56))), (1, .inr (.inl (some 1)))]) (st' := []) (M' := (am_up (am_up (am_up (am_up (am_cp (am_cp (am_cp (am_cp (am_cp (am_cp (am_cp M 2 57 60) 3 58 60) 4 59 60) 5 60 60) 6 61 3) 7 62 8) 8 63 8) 56 7 ((am_cp (am_cp (am_cp (am_cp (am_cp (am_cp (am_cp M 2 57 60) 3 58 60) 4 59 60) 5 60 60) 6 61 3) 7 62 8) 8 63 8) 1 7)) 56 8 ((am_up (am_cp (am_cp (am_cp (am_cp (am_cp (am_cp (am_cp M 2 57 60) 3 58 60) 4 59 60) 5 60 60) 6 61 3) 7 62 8) 8 63 8) 56 7 ((am_cp (am_cp (am_cp (am_cp (am_cp (am_cp (am_cp M 2 57 60) 3 58 60) 4 59 60) 5 60 60) 6 61 3) 7 62 8) 8 63 8) 1 7)) 1 8)) 56 9 ((am_up (am_up (am_cp (am_cp (am_cp (am_cp (am_cp (am_cp (am_cp M 2 57 60) 3 58 60) 4 59 60) 5 60 60) 6 61 3) 7 62 8) 8 63 8) 56 7 ((am_cp (am_cp (am_cp (am_cp (am_cp (am_cp (am_cp M 2 57 60) 3 58 60) 4 59 60) 5 60 60) 6 61 3) 7 62 8) 8 63 8) 1 7)) 56 8 ((am_up (am_cp (am_cp (am_cp (am_cp (am_cp (am_cp (am_cp M 2 57 60) 3 58 60) 4 59 60) 5 60 60) 6 61 3) 7 62 8) 8 63 8) 56 7 ((am_cp (am_cp (am_cp (am_cp (am_cp (am_cp (am_cp M 2 57 60) 3 58 60) 4 59 60) 5 60 60) 6 61 3) 7 62 8) 8 63 8) 1 7)) 1 8)) 1 9)) 56 10 ((am_up (am_up (am_up (am_cp (am_cp (am_cp (am_cp (am_cp (am_cp (am_cp M 2 57 60) 3 58 60) 4 59 60) 5 60 60) 6 61 3) 7 62 8) 8 63 8) 56 7 ((am_cp (am_cp (am_cp (am_cp (am_cp (am_cp (am_cp M 2 57 60) 3 58 60) 4 59 60) 5 60 60) 6 61 3) 7 62 8) 8 63 8) 1 7)) 56 8 ((am_up (am_cp (am_cp (am_cp (am_cp (am_cp (am_cp (am_cp M 2 57 60) 3 58 60) 4 59 60) 5 60 60) 6 61 3) 7 62 8) 8 63 8) 56 7 ((am_cp (am_cp (am_cp (am_cp (am_cp (am_cp (am_cp M 2 57 60) 3 58 60) 4 59 60) 5 60 60) 6 61 3) 7 62 8) 8 63 8) 1 7)) 1 8)) 56 9 ((am_up (am_up (am_cp (am_cp (am_cp (am_cp (am_cp (am_cp (am_cp M 2 57 60) 3 58 60) 4 59 60) 5 60 60) 6 61 3) 7 62 8) 8 63 8) 56 7 ((am_cp (am_cp (am_cp (am_cp (am_cp (am_cp (am_cp M 2 57 60) 3 58 60) 4 59 60) 5 60 60) 6 61 3) 7 62 8) 8 63 8) 1 7)) 56 8 ((am_up (am_cp (am_cp (am_cp (am_cp (am_cp (am_cp (am_cp M 2 57 60) 3 58 60) 4 59 60) 5 60 60) 6 61 3) 7 62 8) 8 63 8) 56 7 ((am_cp (am_cp (am_cp (am_cp (am_cp (am_cp (am_cp M 2 57 60) 3 58 60) 4 59 60) 5 60 60) 6 61 3) 7 62 8) 8 63 8) 1 7)) 1 8)) 1 9)) 1 10))) rfl ⟨⟨by decide, by decide⟩, ⟨rfl, rfl, by decide, by decide, by decide, by decide⟩, ⟨by decide, by decide⟩, ⟨rfl, rfl, by decide, by decide, by decide, by decide⟩, ⟨by decide, by decide⟩, ⟨rfl, rfl, by decide, by decide, by decide, by decide⟩, ⟨by decide, by decide⟩, ⟨rfl, rfl, by decide, by decide, by decide, by decide⟩, ⟨rfl, rfl, by decide, by decide, by decide, by decide⟩, ⟨by decide, by decide⟩, ⟨rfl, rfl, by decide, by decide, by decide, by decide⟩, ⟨by decide, by decide⟩, ⟨rfl, rfl, by decide, by decide, by decide, by decide⟩, trivial⟩ ?_
  exact am_Wretv rfl rfl h
abbrev dt_X0_remember : am_D := (tk_X0_remember, 0, 3, none, tb_hn 1)
def wj_X0_remember_32 (Q : am_M → Prop) (M : am_M) : Prop := wp_X0_rowAt ((M 14 1) + (M 14 2)) M (fun x1 M2 => (x1 = none ∨ x1 = some 16 ∨ x1 = some 24 ∨ x1 = some 32 ∨ x1 = some 40 ∨ x1 = some 48 ∨ x1 = some 56) ∧ (x1 = none → Q M2) ∧ (x1 = some 16 → wp_X2_copyFrom_16_1 M2 (fun M3 => Q (am_up M3 14 2 ((M3 14 2) + 1)))) ∧ (x1 = some 24 → wp_X2_copyFrom_24_1 M2 (fun M4 => Q (am_up M4 14 2 ((M4 14 2) + 1)))) ∧ (x1 = some 32 → wp_X2_copyFrom_32_1 M2 (fun M5 => Q (am_up M5 14 2 ((M5 14 2) + 1)))) ∧ (x1 = some 40 → wp_X2_copyFrom_40_1 M2 (fun M6 => Q (am_up M6 14 2 ((M6 14 2) + 1)))) ∧ (x1 = some 48 → wp_X2_copyFrom_48_1 M2 (fun M7 => Q (am_up M7 14 2 ((M7 14 2) + 1)))) ∧ (x1 = some 56 → wp_X2_copyFrom_56_1 M2 (fun M8 => Q (am_up M8 14 2 ((M8 14 2) + 1)))))
def wp_X0_remember (M : am_M) (Q : am_M → Prop) : Prop := (am_rg (M 14 2)) ∧ (¬ (M 14 2) = 6 → wj_X0_remember_32 Q  M) ∧ (¬ (¬ (M 14 2) = 6) → (am_rg ((M 14 1) + 1) ∧ am_rg 6 ∧ (0 : Int) < 6) ∧ (wj_X0_remember_32 Q  (am_up (am_up M 14 1 (Int.tmod ((M 14 1) + 1) 6)) 14 2 (((am_up M 14 1 (Int.tmod ((M 14 1) + 1) 6)) 14 2) - 1))))
set_option maxRecDepth 20000 in
theorem tj_X0_remember_32 {Q : am_M → Prop} {QX : am_X} (M : am_M) (h : wj_X0_remember_32 Q M) : am_W (am_CC 2) dt_X0_remember 2 0 none (am_QV Q) QX (0, 32, [(0, .inr (.inl (some 14))), (1, .inr (.inl (some 1)))], [], M) := by
  refine am_Wrun 6 (ps := []) (pc' := 42) (lv' := [(0, .inr (.inl (some 14))), (1, .inr (.inl (some 1)))]) (st' := [.inl ((M 14 1) + (M 14 2)), .inr (.inl (some 14))]) (M' := M) rfl trivial ?_
  refine am_WcallV (y := 2) (n := 2) (a := 14) (f := 45) (as := [.inl ((M 14 1) + (M 14 2))]) (st' := []) rfl rfl rfl rfl rfl rfl rfl rfl rfl rfl (Nat.zero_le _) rfl (am_CC_le (Nat.le_of_ble_eq_true rfl) (tm_X0_rowAt h)) (fun r M2 q => ?_) (fun _ _ q => q.elim)
  obtain ⟨x1, rfl, h⟩ := q
  obtain ⟨hor, g0, g1, g2, g3, g4, g5, g6⟩ := h
  rcases hor with rfl | rfl | rfl | rfl | rfl | rfl | rfl
  · have h := g0 rfl
    refine am_Wrun 2 (ps := []) (pc' := 47) (lv' := [(2, .inr (.inl none)), (0, .inr (.inl (some 14))), (1, .inr (.inl (some 1)))]) (st' := [.inr (.inl none)]) (M' := M2) rfl trivial ?_
    refine am_Wbr (P := []) (c := (none : Option Nat) = none) (t := 65) (f := 50) (st' := []) rfl rfl trivial rfl (fun q => ?_) (fun q => absurd rfl q)
    exact am_Wretv rfl rfl h
  · have h := g1 rfl
    refine am_Wrun 2 (ps := []) (pc' := 47) (lv' := [(2, .inr (.inl (some 16))), (0, .inr (.inl (some 14))), (1, .inr (.inl (some 1)))]) (st' := [.inr (.inl (some 16))]) (M' := M2) rfl trivial ?_
    refine am_Wbr (P := []) (c := (some 16) = none) (t := 65) (f := 50) (st' := []) rfl rfl trivial rfl (fun q => absurd q (by simp)) (fun q => ?_)
    refine am_Wrun 2 (ps := []) (pc' := 52) (lv' := [(2, .inr (.inl (some 16))), (0, .inr (.inl (some 14))), (1, .inr (.inl (some 1)))]) (st' := [.inr (.inl (some 1)), .inr (.inl (some 16))]) (M' := M2) rfl trivial ?_
    refine am_WcallV (y := 4) (n := 2) (a := 16) (f := 55) (as := [.inr (.inl (some 1))]) (st' := []) rfl rfl rfl rfl rfl rfl rfl rfl rfl rfl (Nat.zero_le _) rfl (am_CC_le (Nat.le_of_ble_eq_true rfl) (tm_X2_copyFrom_16_1 h)) (fun r M3 q => ?_) (fun _ _ q => q.elim)
    obtain ⟨rfl, h⟩ := q
    refine am_Wrun 6 (ps := []) (pc' := 65) (lv' := [(2, .inr (.inl (some 16))), (0, .inr (.inl (some 14))), (1, .inr (.inl (some 1)))]) (st' := []) (M' := (am_up M3 14 2 ((M3 14 2) + 1))) rfl trivial ?_
    exact am_Wretv rfl rfl h
  · have h := g2 rfl
    refine am_Wrun 2 (ps := []) (pc' := 47) (lv' := [(2, .inr (.inl (some 24))), (0, .inr (.inl (some 14))), (1, .inr (.inl (some 1)))]) (st' := [.inr (.inl (some 24))]) (M' := M2) rfl trivial ?_
    refine am_Wbr (P := []) (c := (some 24) = none) (t := 65) (f := 50) (st' := []) rfl rfl trivial rfl (fun q => absurd q (by simp)) (fun q => ?_)
    refine am_Wrun 2 (ps := []) (pc' := 52) (lv' := [(2, .inr (.inl (some 24))), (0, .inr (.inl (some 14))), (1, .inr (.inl (some 1)))]) (st' := [.inr (.inl (some 1)), .inr (.inl (some 24))]) (M' := M2) rfl trivial ?_
    refine am_WcallV (y := 4) (n := 2) (a := 24) (f := 55) (as := [.inr (.inl (some 1))]) (st' := []) rfl rfl rfl rfl rfl rfl rfl rfl rfl rfl (Nat.zero_le _) rfl (am_CC_le (Nat.le_of_ble_eq_true rfl) (tm_X2_copyFrom_24_1 h)) (fun r M4 q => ?_) (fun _ _ q => q.elim)
    obtain ⟨rfl, h⟩ := q
    refine am_Wrun 6 (ps := []) (pc' := 65) (lv' := [(2, .inr (.inl (some 24))), (0, .inr (.inl (some 14))), (1, .inr (.inl (some 1)))]) (st' := []) (M' := (am_up M4 14 2 ((M4 14 2) + 1))) rfl trivial ?_
    exact am_Wretv rfl rfl h
  · have h := g3 rfl
    refine am_Wrun 2 (ps := []) (pc' := 47) (lv' := [(2, .inr (.inl (some 32))), (0, .inr (.inl (some 14))), (1, .inr (.inl (some 1)))]) (st' := [.inr (.inl (some 32))]) (M' := M2) rfl trivial ?_
    refine am_Wbr (P := []) (c := (some 32) = none) (t := 65) (f := 50) (st' := []) rfl rfl trivial rfl (fun q => absurd q (by simp)) (fun q => ?_)
    refine am_Wrun 2 (ps := []) (pc' := 52) (lv' := [(2, .inr (.inl (some 32))), (0, .inr (.inl (some 14))), (1, .inr (.inl (some 1)))]) (st' := [.inr (.inl (some 1)), .inr (.inl (some 32))]) (M' := M2) rfl trivial ?_
    refine am_WcallV (y := 4) (n := 2) (a := 32) (f := 55) (as := [.inr (.inl (some 1))]) (st' := []) rfl rfl rfl rfl rfl rfl rfl rfl rfl rfl (Nat.zero_le _) rfl (am_CC_le (Nat.le_of_ble_eq_true rfl) (tm_X2_copyFrom_32_1 h)) (fun r M5 q => ?_) (fun _ _ q => q.elim)
    obtain ⟨rfl, h⟩ := q
    refine am_Wrun 6 (ps := []) (pc' := 65) (lv' := [(2, .inr (.inl (some 32))), (0, .inr (.inl (some 14))), (1, .inr (.inl (some 1)))]) (st' := []) (M' := (am_up M5 14 2 ((M5 14 2) + 1))) rfl trivial ?_
    exact am_Wretv rfl rfl h
  · have h := g4 rfl
    refine am_Wrun 2 (ps := []) (pc' := 47) (lv' := [(2, .inr (.inl (some 40))), (0, .inr (.inl (some 14))), (1, .inr (.inl (some 1)))]) (st' := [.inr (.inl (some 40))]) (M' := M2) rfl trivial ?_
    refine am_Wbr (P := []) (c := (some 40) = none) (t := 65) (f := 50) (st' := []) rfl rfl trivial rfl (fun q => absurd q (by simp)) (fun q => ?_)
    refine am_Wrun 2 (ps := []) (pc' := 52) (lv' := [(2, .inr (.inl (some 40))), (0, .inr (.inl (some 14))), (1, .inr (.inl (some 1)))]) (st' := [.inr (.inl (some 1)), .inr (.inl (some 40))]) (M' := M2) rfl trivial ?_
    refine am_WcallV (y := 4) (n := 2) (a := 40) (f := 55) (as := [.inr (.inl (some 1))]) (st' := []) rfl rfl rfl rfl rfl rfl rfl rfl rfl rfl (Nat.zero_le _) rfl (am_CC_le (Nat.le_of_ble_eq_true rfl) (tm_X2_copyFrom_40_1 h)) (fun r M6 q => ?_) (fun _ _ q => q.elim)
    obtain ⟨rfl, h⟩ := q
    refine am_Wrun 6 (ps := []) (pc' := 65) (lv' := [(2, .inr (.inl (some 40))), (0, .inr (.inl (some 14))), (1, .inr (.inl (some 1)))]) (st' := []) (M' := (am_up M6 14 2 ((M6 14 2) + 1))) rfl trivial ?_
    exact am_Wretv rfl rfl h
  · have h := g5 rfl
    refine am_Wrun 2 (ps := []) (pc' := 47) (lv' := [(2, .inr (.inl (some 48))), (0, .inr (.inl (some 14))), (1, .inr (.inl (some 1)))]) (st' := [.inr (.inl (some 48))]) (M' := M2) rfl trivial ?_
    refine am_Wbr (P := []) (c := (some 48) = none) (t := 65) (f := 50) (st' := []) rfl rfl trivial rfl (fun q => absurd q (by simp)) (fun q => ?_)
    refine am_Wrun 2 (ps := []) (pc' := 52) (lv' := [(2, .inr (.inl (some 48))), (0, .inr (.inl (some 14))), (1, .inr (.inl (some 1)))]) (st' := [.inr (.inl (some 1)), .inr (.inl (some 48))]) (M' := M2) rfl trivial ?_
    refine am_WcallV (y := 4) (n := 2) (a := 48) (f := 55) (as := [.inr (.inl (some 1))]) (st' := []) rfl rfl rfl rfl rfl rfl rfl rfl rfl rfl (Nat.zero_le _) rfl (am_CC_le (Nat.le_of_ble_eq_true rfl) (tm_X2_copyFrom_48_1 h)) (fun r M7 q => ?_) (fun _ _ q => q.elim)
    obtain ⟨rfl, h⟩ := q
    refine am_Wrun 6 (ps := []) (pc' := 65) (lv' := [(2, .inr (.inl (some 48))), (0, .inr (.inl (some 14))), (1, .inr (.inl (some 1)))]) (st' := []) (M' := (am_up M7 14 2 ((M7 14 2) + 1))) rfl trivial ?_
    exact am_Wretv rfl rfl h
  · have h := g6 rfl
    refine am_Wrun 2 (ps := []) (pc' := 47) (lv' := [(2, .inr (.inl (some 56))), (0, .inr (.inl (some 14))), (1, .inr (.inl (some 1)))]) (st' := [.inr (.inl (some 56))]) (M' := M2) rfl trivial ?_
    refine am_Wbr (P := []) (c := (some 56) = none) (t := 65) (f := 50) (st' := []) rfl rfl trivial rfl (fun q => absurd q (by simp)) (fun q => ?_)
    refine am_Wrun 2 (ps := []) (pc' := 52) (lv' := [(2, .inr (.inl (some 56))), (0, .inr (.inl (some 14))), (1, .inr (.inl (some 1)))]) (st' := [.inr (.inl (some 1)), .inr (.inl (some 56))]) (M' := M2) rfl trivial ?_
    refine am_WcallV (y := 4) (n := 2) (a := 56) (f := 55) (as := [.inr (.inl (some 1))]) (st' := []) rfl rfl rfl rfl rfl rfl rfl rfl rfl rfl (Nat.zero_le _) rfl (am_CC_le (Nat.le_of_ble_eq_true rfl) (tm_X2_copyFrom_56_1 h)) (fun r M8 q => ?_) (fun _ _ q => q.elim)
    obtain ⟨rfl, h⟩ := q
    refine am_Wrun 6 (ps := []) (pc' := 65) (lv' := [(2, .inr (.inl (some 56))), (0, .inr (.inl (some 14))), (1, .inr (.inl (some 1)))]) (st' := []) (M' := (am_up M8 14 2 ((M8 14 2) + 1))) rfl trivial ?_
    exact am_Wretv rfl rfl h
set_option maxRecDepth 20000 in
theorem tm_X0_remember {M : am_M} {Q : am_M → Prop} (h : wp_X0_remember M Q) : am_CC 3 1 [.inr (.inl (some 14)), .inr (.inl (some 1))] M (am_QV Q) (fun _ _ => False) := by
  refine ⟨Nat.le_of_ble_eq_true rfl, ?_⟩
  show am_W (am_CC 2) dt_X0_remember 2 0 none (am_QV Q) (am_qx 1 (fun _ _ => False)) (0, 0, [(0, .inr (.inl (some 14))), (1, .inr (.inl (some 1)))], [], M)
  refine am_Wrun 3 (ps := [-128 ≤ (6 : Int) ∧ (6 : Int) ≤ 127]) (pc' := 6) (lv' := [(0, .inr (.inl (some 14))), (1, .inr (.inl (some 1)))]) (st' := [.inl (6), .inl (M 14 2)]) (M' := M) rfl ⟨⟨by decide, by decide⟩, trivial⟩ ?_
  obtain ⟨b0, ht, hf⟩ := h
  refine am_Wbr (P := [am_rg (M 14 2), am_rg 6]) (c := ¬ (M 14 2) = 6) (t := 32) (f := 9) (st' := []) rfl rfl ⟨b0, (am_rgd rfl), trivial⟩ rfl (fun q => ?_) (fun q => ?_)
  · have h := ht q
    refine am_W_sub [0, 1] rfl ?_
    exact tj_X0_remember_32  M h
  · have h := hf q
    obtain ⟨c1_0, h⟩ := h
    refine am_Wrun 14 (ps := [-128 ≤ (6 : Int) ∧ (6 : Int) ≤ 127, am_rg ((M 14 1) + 1) ∧ am_rg 6 ∧ (0 : Int) < 6]) (pc' := 32) (lv' := [(0, .inr (.inl (some 14))), (1, .inr (.inl (some 1)))]) (st' := []) (M' := (am_up (am_up M 14 1 (Int.tmod ((M 14 1) + 1) 6)) 14 2 (((am_up M 14 1 (Int.tmod ((M 14 1) + 1) 6)) 14 2) - 1))) rfl ⟨⟨by decide, by decide⟩, c1_0, trivial⟩ ?_
    refine am_W_sub [0, 1] rfl ?_
    exact tj_X0_remember_32  (am_up (am_up M 14 1 (Int.tmod ((M 14 1) + 1) 6)) 14 2 (((am_up M 14 1 (Int.tmod ((M 14 1) + 1) 6)) 14 2) - 1)) h
abbrev dt_X2_copyPoint : am_D := (tk_X2_copyPoint, 2, 3, none, tb_hn 81)
def wp_X2_copyPoint (a0 : Int) (a1 : Int) (M : am_M) (Q : am_M → Prop) : Prop := (am_rg a0) ∧ (a0 < 0 → Q M) ∧ (¬ a0 < 0 → (am_rg a0) ∧ (60 ≤ a0 → Q M) ∧ (¬ 60 ≤ a0 → (am_rg a1) ∧ (a1 < 0 → Q M) ∧ (¬ a1 < 0 → (am_rg a1) ∧ (60 ≤ a1 → Q M) ∧ (¬ 60 ≤ a1 → (0 ≤ (a0 : Int) ∧ (a0 : Int) < 60) ∧ (0 ≤ (a1 : Int) ∧ (a1 : Int) < 60) ∧ (0 ≤ (a0 : Int) ∧ (a0 : Int) < 60) ∧ (0 ≤ (a1 : Int) ∧ (a1 : Int) < 60) ∧ (0 ≤ (a0 : Int) ∧ (a0 : Int) < 60) ∧ (0 ≤ (a1 : Int) ∧ (a1 : Int) < 60) ∧ (Q (am_up (am_up (am_up M 2 a1 (M 2 a0)) 3 a1 ((am_up M 2 a1 (M 2 a0)) 3 a0)) 4 a1 ((am_up (am_up M 2 a1 (M 2 a0)) 3 a1 ((am_up M 2 a1 (M 2 a0)) 3 a0)) 4 a0)))))))
set_option maxRecDepth 20000 in
theorem tm_X2_copyPoint {a0 a1 : Int} {M : am_M} {Q : am_M → Prop} (h : wp_X2_copyPoint a0 a1 M Q) : am_CC 1 81 [.inr (.inl (some 1)), .inl (a0), .inl (a1)] M (am_QV Q) (fun _ _ => False) := by
  refine ⟨Nat.le_of_ble_eq_true rfl, ?_⟩
  show am_W (am_CC 0) dt_X2_copyPoint 0 0 none (am_QV Q) (am_qx 81 (fun _ _ => False)) (0, 0, [(0, .inr (.inl (some 1))), (1, .inl (a0)), (2, .inl (a1))], [], M)
  refine am_Wrun 1 (ps := []) (pc' := 1) (lv' := [(0, .inr (.inl (some 1))), (1, .inl (a0)), (2, .inl (a1))]) (st' := [.inl (a0)]) (M' := M) rfl trivial ?_
  obtain ⟨b0, ht, hf⟩ := h
  refine am_Wbr (P := [am_rg a0]) (c := a0 < 0) (t := 56) (f := 4) (st' := []) rfl rfl ⟨b0, trivial⟩ rfl (fun q => ?_) (fun q => ?_)
  · have h := ht q
    exact am_Wretv rfl rfl h
  · have h := hf q
    refine am_Wrun 2 (ps := [-128 ≤ (60 : Int) ∧ (60 : Int) ≤ 127]) (pc' := 7) (lv' := [(0, .inr (.inl (some 1))), (1, .inl (a0)), (2, .inl (a1))]) (st' := [.inl (60), .inl (a0)]) (M' := M) rfl ⟨⟨by decide, by decide⟩, trivial⟩ ?_
    obtain ⟨b0, ht, hf⟩ := h
    refine am_Wbr (P := [am_rg a0, am_rg 60]) (c := 60 ≤ a0) (t := 56) (f := 10) (st' := []) rfl rfl ⟨b0, (am_rgd rfl), trivial⟩ rfl (fun q => ?_) (fun q => ?_)
    · have h := ht q
      exact am_Wretv rfl rfl h
    · have h := hf q
      refine am_Wrun 1 (ps := []) (pc' := 11) (lv' := [(0, .inr (.inl (some 1))), (1, .inl (a0)), (2, .inl (a1))]) (st' := [.inl (a1)]) (M' := M) rfl trivial ?_
      obtain ⟨b0, ht, hf⟩ := h
      refine am_Wbr (P := [am_rg a1]) (c := a1 < 0) (t := 56) (f := 14) (st' := []) rfl rfl ⟨b0, trivial⟩ rfl (fun q => ?_) (fun q => ?_)
      · have h := ht q
        exact am_Wretv rfl rfl h
      · have h := hf q
        refine am_Wrun 2 (ps := [-128 ≤ (60 : Int) ∧ (60 : Int) ≤ 127]) (pc' := 17) (lv' := [(0, .inr (.inl (some 1))), (1, .inl (a0)), (2, .inl (a1))]) (st' := [.inl (60), .inl (a1)]) (M' := M) rfl ⟨⟨by decide, by decide⟩, trivial⟩ ?_
        obtain ⟨b0, ht, hf⟩ := h
        refine am_Wbr (P := [am_rg a1, am_rg 60]) (c := 60 ≤ a1) (t := 56) (f := 20) (st' := []) rfl rfl ⟨b0, (am_rgd rfl), trivial⟩ rfl (fun q => ?_) (fun q => ?_)
        · have h := ht q
          exact am_Wretv rfl rfl h
        · have h := hf q
          obtain ⟨c0_0, c1_0, c2_0, c3_0, c4_0, c5_0, h⟩ := h
          refine am_Wrun 24 (ps := [0 ≤ (a0 : Int) ∧ (a0 : Int) < 60, 0 ≤ (a1 : Int) ∧ (a1 : Int) < 60, 0 ≤ (a0 : Int) ∧ (a0 : Int) < 60, 0 ≤ (a1 : Int) ∧ (a1 : Int) < 60, 0 ≤ (a0 : Int) ∧ (a0 : Int) < 60, 0 ≤ (a1 : Int) ∧ (a1 : Int) < 60]) (pc' := 56) (lv' := [(0, .inr (.inl (some 1))), (1, .inl (a0)), (2, .inl (a1))]) (st' := []) (M' := (am_up (am_up (am_up M 2 a1 (M 2 a0)) 3 a1 ((am_up M 2 a1 (M 2 a0)) 3 a0)) 4 a1 ((am_up (am_up M 2 a1 (M 2 a0)) 3 a1 ((am_up M 2 a1 (M 2 a0)) 3 a0)) 4 a0))) rfl ⟨c0_0, c1_0, c2_0, c3_0, c4_0, c5_0, trivial⟩ ?_
          exact am_Wretv rfl rfl h
abbrev dt_X2_insert : am_D := (tk_X2_insert, 2, 5, some .int, tb_hn 80)
def wl_X2_insert_24 (Q : Int → am_M → Prop) : Nat → Int → Int → Int → Int → am_M → Prop
  | 0, _, _, _, _, _ => False
  | n + 1, v1, v2, v3, v4, M => (am_rg v4) ∧ (am_rg v3) ∧ (v4 ≤ v3 → (0 ≤ (v3 : Int) ∧ (v3 : Int) < 60) ∧ (0 ≤ (v3 : Int) ∧ (v3 : Int) < 60) ∧ (0 ≤ (v3 : Int) ∧ (v3 : Int) < 60) ∧ (Q v3 (am_up (am_up (am_up (am_up M 2 v3 v1) 3 v3 v2) 4 v3 1) 1 7 (((am_up (am_up (am_up M 2 v3 v1) 3 v3 v2) 4 v3 1) 1 7) + 1)))) ∧ (¬ v4 ≤ v3 → wp_X2_copyPoint (v4 - 1) v4 M (fun M3 => wl_X2_insert_24 Q n v1 v2 v3 (v4 + (-1)) M3))
def wp_X2_insert (a0 : Int) (a1 : Int) (M : am_M) (Q : Int → am_M → Prop) : Prop := (am_rg (M 1 7)) ∧ ((M 1 7) < 60 → wp_X2_placeOf a0 M (fun x1 M2 => ∃ e24, wl_X2_insert_24 Q e24 a0 a1 x1 (M2 1 7) M2)) ∧ (¬ (M 1 7) < 60 → Q (-1000000) M)
set_option maxRecDepth 20000 in
theorem tw_X2_insert_24 {Q : Int → am_M → Prop} {QX : am_X} : ∀ (n : Nat) (v1 : Int) (v2 : Int) (v3 : Int) (v4 : Int) (M : am_M), wl_X2_insert_24 Q n v1 v2 v3 v4 M → am_W (am_CC 1) dt_X2_insert 1 0 none (am_QI Q) QX (0, 24, [(0, .inr (.inl (some 1))), (1, .inl (v1)), (2, .inl (v2)), (3, .inl (v3)), (4, .inl (v4))], [], M)
  | 0, _, _, _, _, _, h => h.elim
  | n + 1, v1, v2, v3, v4, M, h => by
    refine am_Wrun 2 (ps := []) (pc' := 27) (lv' := [(0, .inr (.inl (some 1))), (1, .inl (v1)), (2, .inl (v2)), (3, .inl (v3)), (4, .inl (v4))]) (st' := [.inl (v3), .inl (v4)]) (M' := M) rfl trivial ?_
    obtain ⟨b0, b1, ht, hf⟩ := h
    refine am_Wbr (P := [am_rg v4, am_rg v3]) (c := v4 ≤ v3) (t := 46) (f := 30) (st' := []) rfl rfl ⟨b0, b1, trivial⟩ rfl (fun q => ?_) (fun q => ?_)
    · have h := ht q
      obtain ⟨c0_0, c1_0, c2_0, h⟩ := h
      refine am_Wrun 22 (ps := [0 ≤ (v3 : Int) ∧ (v3 : Int) < 60, 0 ≤ (v3 : Int) ∧ (v3 : Int) < 60, 0 ≤ (v3 : Int) ∧ (v3 : Int) < 60]) (pc' := 78) (lv' := [(0, .inr (.inl (some 1))), (1, .inl (v1)), (2, .inl (v2)), (3, .inl (v3)), (4, .inl (v4))]) (st' := [.inl (v3)]) (M' := (am_up (am_up (am_up (am_up M 2 v3 v1) 3 v3 v2) 4 v3 1) 1 7 (((am_up (am_up (am_up M 2 v3 v1) 3 v3 v2) 4 v3 1) 1 7) + 1))) rfl ⟨c0_0, c1_0, c2_0, trivial⟩ ?_
      exact am_Wreti rfl rfl h
    · have h := hf q
      refine am_Wrun 5 (ps := []) (pc' := 37) (lv' := [(0, .inr (.inl (some 1))), (1, .inl (v1)), (2, .inl (v2)), (3, .inl (v3)), (4, .inl (v4))]) (st' := [.inl (v4), .inl (v4 - 1), .inr (.inl (some 1))]) (M' := M) rfl trivial ?_
      refine am_WcallV (y := 81) (n := 3) (a := 1) (f := 40) (as := [.inl (v4 - 1), .inl (v4)]) (st' := []) rfl rfl rfl rfl rfl rfl rfl rfl rfl rfl (Nat.zero_le _) rfl (am_CC_le (Nat.le_of_ble_eq_true rfl) (tm_X2_copyPoint h)) (fun r M3 q => ?_) (fun _ _ q => q.elim)
      obtain ⟨rfl, h⟩ := q
      refine am_Wrun 2 (ps := []) (pc' := 24) (lv' := [(4, .inl (v4 + (-1))), (0, .inr (.inl (some 1))), (1, .inl (v1)), (2, .inl (v2)), (3, .inl (v3))]) (st' := []) (M' := M3) rfl trivial ?_
      refine am_W_sub [1, 2, 3, 4, 0] rfl ?_
      exact tw_X2_insert_24 n v1 v2 v3 (v4 + (-1)) M3 h
set_option maxRecDepth 20000 in
theorem tm_X2_insert {a0 a1 : Int} {M : am_M} {Q : Int → am_M → Prop} (h : wp_X2_insert a0 a1 M Q) : am_CC 2 80 [.inr (.inl (some 1)), .inl (a0), .inl (a1)] M (am_QI Q) (fun _ _ => False) := by
  refine ⟨Nat.le_of_ble_eq_true rfl, ?_⟩
  show am_W (am_CC 1) dt_X2_insert 1 0 none (am_QI Q) (am_qx 80 (fun _ _ => False)) (0, 0, [(0, .inr (.inl (some 1))), (1, .inl (a0)), (2, .inl (a1))], [], M)
  refine am_Wrun 3 (ps := [-128 ≤ (60 : Int) ∧ (60 : Int) ≤ 127]) (pc' := 6) (lv' := [(0, .inr (.inl (some 1))), (1, .inl (a0)), (2, .inl (a1))]) (st' := [.inl (60), .inl (M 1 7)]) (M' := M) rfl ⟨⟨by decide, by decide⟩, trivial⟩ ?_
  obtain ⟨b0, ht, hf⟩ := h
  refine am_Wbr (P := [am_rg (M 1 7), am_rg 60]) (c := (M 1 7) < 60) (t := 12) (f := 9) (st' := []) rfl rfl ⟨b0, (am_rgd rfl), trivial⟩ rfl (fun q => ?_) (fun q => ?_)
  · have h := ht q
    refine am_Wrun 2 (ps := []) (pc' := 14) (lv' := [(0, .inr (.inl (some 1))), (1, .inl (a0)), (2, .inl (a1))]) (st' := [.inl (a0), .inr (.inl (some 1))]) (M' := M) rfl trivial ?_
    refine am_WcallV (y := 20) (n := 2) (a := 1) (f := 17) (as := [.inl (a0)]) (st' := []) rfl rfl rfl rfl rfl rfl rfl rfl rfl rfl (Nat.zero_le _) rfl (am_CC_le (Nat.le_of_ble_eq_true rfl) (tm_X2_placeOf h)) (fun r M2 q => ?_) (fun _ _ q => q.elim)
    obtain ⟨x1, rfl, h⟩ := q
    refine am_Wrun 4 (ps := []) (pc' := 24) (lv' := [(4, .inl (M2 1 7)), (3, .inl (x1)), (0, .inr (.inl (some 1))), (1, .inl (a0)), (2, .inl (a1))]) (st' := []) (M' := M2) rfl trivial ?_
    refine am_W_sub [2, 3, 4, 1, 0] rfl ?_
    obtain ⟨n24, h⟩ := h
    exact tw_X2_insert_24 n24 a0 a1 x1 (M2 1 7) M2 h
  · have h := hf q
    refine am_Wrun 1 (ps := []) (pc' := 11) (lv' := [(0, .inr (.inl (some 1))), (1, .inl (a0)), (2, .inl (a1))]) (st' := [.inl ((-1000000))]) (M' := M) rfl trivial ?_
    exact am_Wreti rfl rfl h
abbrev dt_X2_numberStretches : am_D := (tk_X2_numberStretches, 2, 3, none, tb_hn 83)
def wj_X2_numberStretches_43 (Q : am_M → Prop) (k4 : Int → Int → am_M → Prop) (v1 : Int) (v2 : Int) (M : am_M) : Prop := (0 ≤ (v2 : Int) ∧ (v2 : Int) < 60) ∧ (k4 v1 (v2 + 1) (am_up M 5 v2 v1))
def wl_X2_numberStretches_4 (Q : am_M → Prop) : Nat → Int → Int → am_M → Prop
  | 0, _, _, _ => False
  | n + 1, v1, v2, M => (am_rg v2) ∧ (am_rg (M 1 7)) ∧ ((M 1 7) ≤ v2 → Q M) ∧ (¬ (M 1 7) ≤ v2 → (am_rg v2) ∧ (v2 ≤ 0 → wj_X2_numberStretches_43 Q (wl_X2_numberStretches_4 Q n) v1 v2 M) ∧ (¬ v2 ≤ 0 → (0 ≤ (v2 : Int) ∧ (v2 : Int) < 60) ∧ (0 ≤ (v2 - 1 : Int) ∧ (v2 - 1 : Int) < 60) ∧ ((am_rg ((M 2 v2) - (M 2 (v2 - 1)))) ∧ (am_rg (M 6 1)) ∧ (((M 2 v2) - (M 2 (v2 - 1))) ≤ (M 6 1) → wj_X2_numberStretches_43 Q (wl_X2_numberStretches_4 Q n) v1 v2 M) ∧ (¬ ((M 2 v2) - (M 2 (v2 - 1))) ≤ (M 6 1) → wj_X2_numberStretches_43 Q (wl_X2_numberStretches_4 Q n) (v1 + 1) v2 M))))
def wp_X2_numberStretches (M : am_M) (Q : am_M → Prop) : Prop := ∃ e4, wl_X2_numberStretches_4 Q e4 0 0 M
set_option maxRecDepth 20000 in
theorem tj_X2_numberStretches_43 {Q : am_M → Prop} {QX : am_X} {k4 : Int → Int → am_M → Prop} (hk4 : ∀ (v1 : Int) (v2 : Int) (M : am_M), k4 v1 v2 M → am_W (am_CC 0) dt_X2_numberStretches 0 0 none (am_QV Q) QX (0, 4, [(0, .inr (.inl (some 1))), (1, .inl (v1)), (2, .inl (v2))], [], M)) (v1 : Int) (v2 : Int) (M : am_M) (h : wj_X2_numberStretches_43 Q k4 v1 v2 M) : am_W (am_CC 0) dt_X2_numberStretches 0 0 none (am_QV Q) QX (0, 43, [(0, .inr (.inl (some 1))), (1, .inl (v1)), (2, .inl (v2))], [], M) := by
  obtain ⟨c0_0, h⟩ := h
  refine am_Wrun 7 (ps := [0 ≤ (v2 : Int) ∧ (v2 : Int) < 60]) (pc' := 4) (lv' := [(2, .inl (v2 + 1)), (0, .inr (.inl (some 1))), (1, .inl (v1))]) (st' := []) (M' := (am_up M 5 v2 v1)) rfl ⟨c0_0, trivial⟩ ?_
  refine am_W_sub [1, 2, 0] rfl ?_
  exact hk4 v1 (v2 + 1) (am_up M 5 v2 v1) h
set_option maxRecDepth 20000 in
theorem tw_X2_numberStretches_4 {Q : am_M → Prop} {QX : am_X} : ∀ (n : Nat) (v1 : Int) (v2 : Int) (M : am_M), wl_X2_numberStretches_4 Q n v1 v2 M → am_W (am_CC 0) dt_X2_numberStretches 0 0 none (am_QV Q) QX (0, 4, [(0, .inr (.inl (some 1))), (1, .inl (v1)), (2, .inl (v2))], [], M)
  | 0, _, _, _, h => h.elim
  | n + 1, v1, v2, M, h => by
    refine am_Wrun 3 (ps := []) (pc' := 9) (lv' := [(0, .inr (.inl (some 1))), (1, .inl (v1)), (2, .inl (v2))]) (st' := [.inl (M 1 7), .inl (v2)]) (M' := M) rfl trivial ?_
    obtain ⟨b0, b1, ht, hf⟩ := h
    refine am_Wbr (P := [am_rg v2, am_rg (M 1 7)]) (c := (M 1 7) ≤ v2) (t := 56) (f := 12) (st' := []) rfl rfl ⟨b0, b1, trivial⟩ rfl (fun q => ?_) (fun q => ?_)
    · have h := ht q
      exact am_Wretv rfl rfl h
    · have h := hf q
      refine am_Wrun 1 (ps := []) (pc' := 13) (lv' := [(0, .inr (.inl (some 1))), (1, .inl (v1)), (2, .inl (v2))]) (st' := [.inl (v2)]) (M' := M) rfl trivial ?_
      obtain ⟨b0, ht, hf⟩ := h
      refine am_Wbr (P := [am_rg v2]) (c := v2 ≤ 0) (t := 43) (f := 16) (st' := []) rfl rfl ⟨b0, trivial⟩ rfl (fun q => ?_) (fun q => ?_)
      · have h := ht q
        refine am_W_sub [0, 1, 2] rfl ?_
        exact tj_X2_numberStretches_43 (tw_X2_numberStretches_4 n) v1 v2 M h
      · have h := hf q
        obtain ⟨c0_0, c1_0, h⟩ := h
        refine am_Wrun 15 (ps := [0 ≤ (v2 : Int) ∧ (v2 : Int) < 60, 0 ≤ (v2 - 1 : Int) ∧ (v2 - 1 : Int) < 60, 0 ≤ (1 : Int) ∧ (1 : Int) < 3]) (pc' := 37) (lv' := [(0, .inr (.inl (some 1))), (1, .inl (v1)), (2, .inl (v2))]) (st' := [.inl (M 6 1), .inl ((M 2 v2) - (M 2 (v2 - 1)))]) (M' := M) rfl ⟨c0_0, c1_0, ⟨by decide, by decide⟩, trivial⟩ ?_
        obtain ⟨b0, b1, ht, hf⟩ := h
        refine am_Wbr (P := [am_rg ((M 2 v2) - (M 2 (v2 - 1))), am_rg (M 6 1)]) (c := ((M 2 v2) - (M 2 (v2 - 1))) ≤ (M 6 1)) (t := 43) (f := 40) (st' := []) rfl rfl ⟨b0, b1, trivial⟩ rfl (fun q => ?_) (fun q => ?_)
        · have h := ht q
          refine am_W_sub [0, 1, 2] rfl ?_
          exact tj_X2_numberStretches_43 (tw_X2_numberStretches_4 n) v1 v2 M h
        · have h := hf q
          refine am_Wrun 1 (ps := []) (pc' := 43) (lv' := [(1, .inl (v1 + 1)), (0, .inr (.inl (some 1))), (2, .inl (v2))]) (st' := []) (M' := M) rfl trivial ?_
          refine am_W_sub [1, 0, 2] rfl ?_
          exact tj_X2_numberStretches_43 (tw_X2_numberStretches_4 n) (v1 + 1) v2 M h
set_option maxRecDepth 20000 in
theorem tm_X2_numberStretches {M : am_M} {Q : am_M → Prop} (h : wp_X2_numberStretches M Q) : am_CC 1 83 [.inr (.inl (some 1))] M (am_QV Q) (fun _ _ => False) := by
  refine ⟨Nat.le_of_ble_eq_true rfl, ?_⟩
  show am_W (am_CC 0) dt_X2_numberStretches 0 0 none (am_QV Q) (am_qx 83 (fun _ _ => False)) (0, 0, [(0, .inr (.inl (some 1)))], [], M)
  refine am_Wrun 4 (ps := []) (pc' := 4) (lv' := [(2, .inl (0)), (1, .inl (0)), (0, .inr (.inl (some 1)))]) (st' := []) (M' := M) rfl trivial ?_
  refine am_W_sub [2, 1, 0] rfl ?_
  obtain ⟨n4, h⟩ := h
  exact tw_X2_numberStretches_4 n4 0 0 M h
abbrev dt_X4_forget : am_D := (tk_X4_forget, 4, 1, none, tb_hn 84)
def wp_X4_forget (M : am_M) (Q : am_M → Prop) : Prop := Q (am_up M 10 5 0)
set_option maxRecDepth 20000 in
theorem tm_X4_forget {M : am_M} {Q : am_M → Prop} (h : wp_X4_forget M Q) : am_CC 1 84 [.inr (.inl (some 10))] M (am_QV Q) (fun _ _ => False) := by
  refine ⟨Nat.le_of_ble_eq_true rfl, ?_⟩
  show am_W (am_CC 0) dt_X4_forget 0 0 none (am_QV Q) (am_qx 84 (fun _ _ => False)) (0, 0, [(0, .inr (.inl (some 10)))], [], M)
  refine am_Wrun 3 (ps := [0 = 0 ∨ 0 = 1]) (pc' := 5) (lv' := [(0, .inr (.inl (some 10)))]) (st' := []) (M' := (am_up M 10 5 0)) rfl ⟨(Or.inl rfl), trivial⟩ ?_
  exact am_Wretv rfl rfl h
abbrev dt_X5_pointsChanged : am_D := (tk_X5_pointsChanged, 5, 1, none, tb_hn 82)
def wp_X5_pointsChanged (M : am_M) (Q : am_M → Prop) : Prop := wp_X2_numberStretches M (fun M1 => wp_X4_forget M1 (fun M2 => Q M2))
set_option maxRecDepth 20000 in
theorem tm_X5_pointsChanged {M : am_M} {Q : am_M → Prop} (h : wp_X5_pointsChanged M Q) : am_CC 2 82 [.inr (.inl (some 0))] M (am_QV Q) (fun _ _ => False) := by
  refine ⟨Nat.le_of_ble_eq_true rfl, ?_⟩
  show am_W (am_CC 1) dt_X5_pointsChanged 1 0 none (am_QV Q) (am_qx 82 (fun _ _ => False)) (0, 0, [(0, .inr (.inl (some 0)))], [], M)
  refine am_Wrun 2 (ps := []) (pc' := 4) (lv' := [(0, .inr (.inl (some 0)))]) (st' := [.inr (.inl (some 1))]) (M' := M) rfl trivial ?_
  refine am_WcallV (y := 83) (n := 1) (a := 1) (f := 7) (as := []) (st' := []) rfl rfl rfl rfl rfl rfl rfl rfl rfl rfl (Nat.zero_le _) rfl (am_CC_le (Nat.le_of_ble_eq_true rfl) (tm_X2_numberStretches h)) (fun r M1 q => ?_) (fun _ _ q => q.elim)
  obtain ⟨rfl, h⟩ := q
  refine am_Wrun 2 (ps := []) (pc' := 11) (lv' := [(0, .inr (.inl (some 0)))]) (st' := [.inr (.inl (some 10))]) (M' := M1) rfl trivial ?_
  refine am_WcallV (y := 84) (n := 1) (a := 10) (f := 14) (as := []) (st' := []) rfl rfl rfl rfl rfl rfl rfl rfl rfl rfl (Nat.zero_le _) rfl (am_CC_le (Nat.le_of_ble_eq_true rfl) (tm_X4_forget h)) (fun r M2 q => ?_) (fun _ _ q => q.elim)
  obtain ⟨rfl, h⟩ := q
  exact am_Wretv rfl rfl h
abbrev dt_X5_add : am_D := (tk_X5_add, 5, 4, some .int, tb_hn 76)
def wj_X5_add_14 (Q : Int → am_M → Prop) (X : am_X) (M : am_M) : Prop := X 0 M
def wj_X5_add_47 (Q : Int → am_M → Prop) (X : am_X) (M : am_M) : Prop := X 1 M
def wp_X5_add (a0 : Int) (a1 : Int) (M : am_M) (Q : Int → am_M → Prop) (X : am_X) : Prop := wp_X5_isTime a0 M (fun x1 M2 => (am_rg x1) ∧ (x1 = 0 → wj_X5_add_14 Q X  M2) ∧ (¬ x1 = 0 → wp_X5_isValue a1 M2 (fun x3 M4 => (am_rg x3) ∧ (¬ x3 = 0 → (am_rg (M4 1 7)) ∧ (60 ≤ (M4 1 7) → wj_X5_add_47 Q X  M4) ∧ (¬ 60 ≤ (M4 1 7) → wp_X2_hasTime a0 M4 (fun x5 M6 => (am_rg x5) ∧ (x5 = 0 → wp_X0_remember M6 (fun M7 => wp_X2_insert a0 a1 M7 (fun x8 M9 => wp_X5_pointsChanged M9 (fun M10 => Q x8 M10)))) ∧ (¬ x5 = 0 → wj_X5_add_47 Q X  M6)))) ∧ (¬ (¬ x3 = 0) → wj_X5_add_14 Q X  M4))))
set_option maxRecDepth 20000 in
theorem tj_X5_add_14 {Q : Int → am_M → Prop} {X : am_X} {QX : am_X} (hX : ∀ E M, X E M → QX E M) (M : am_M) (h : wj_X5_add_14 Q X M) : am_W (am_CC 5) dt_X5_add 5 0 none (am_QI Q) QX (0, 14, [], [], M) := by
  exact am_Wthr (is := 61) (ic := 63) (E := 0) rfl (Nat.le_of_ble_eq_true rfl) rfl rfl rfl rfl (Or.inl ⟨rfl, rfl, rfl⟩) (hX _ _ h)
set_option maxRecDepth 20000 in
theorem tj_X5_add_47 {Q : Int → am_M → Prop} {X : am_X} {QX : am_X} (hX : ∀ E M, X E M → QX E M) (M : am_M) (h : wj_X5_add_47 Q X M) : am_W (am_CC 5) dt_X5_add 5 0 none (am_QI Q) QX (0, 47, [], [], M) := by
  exact am_Wthr (is := 75) (ic := 77) (E := 1) rfl (Nat.le_of_ble_eq_true rfl) rfl rfl rfl rfl (Or.inl ⟨rfl, rfl, rfl⟩) (hX _ _ h)
set_option maxRecDepth 20000 in
theorem tm_X5_add {a0 a1 : Int} {M : am_M} {Q : Int → am_M → Prop} {X : am_X} (h : wp_X5_add a0 a1 M Q X) : am_CC 6 76 [.inr (.inl (some 0)), .inl (a0), .inl (a1)] M (am_QI Q) X := by
  refine ⟨Nat.le_of_ble_eq_true rfl, ?_⟩
  show am_W (am_CC 5) dt_X5_add 5 0 none (am_QI Q) (am_qx 76 X) (0, 0, [(0, .inr (.inl (some 0))), (1, .inl (a0)), (2, .inl (a1))], [], M)
  have hX : ∀ E M, X E M → am_qx 76 X E M := fun E M q => ⟨⟨rfl, by decide⟩, q⟩
  refine am_Wrun 1 (ps := []) (pc' := 1) (lv' := [(0, .inr (.inl (some 0))), (1, .inl (a0)), (2, .inl (a1))]) (st' := [.inl (a0)]) (M' := M) rfl trivial ?_
  refine am_WcallS (y := 77) (n := 1) (f := 4) (co := 0) (as := [.inl (a0)]) (st' := []) rfl rfl rfl rfl rfl rfl rfl rfl rfl (Nat.zero_le _) rfl (am_CC_le (Nat.le_of_ble_eq_true rfl) (tm_X5_isTime h)) (fun r M2 q => ?_) (fun _ _ q => q.elim)
  obtain ⟨x1, rfl, h⟩ := q
  obtain ⟨b0, ht, hf⟩ := h
  refine am_Wbr (P := [am_rg x1]) (c := x1 = 0) (t := 14) (f := 7) (st' := []) rfl rfl ⟨b0, trivial⟩ rfl (fun q => ?_) (fun q => ?_)
  · have h := ht q
    refine am_W_sub [] rfl ?_
    exact tj_X5_add_14 hX  M2 h
  · have h := hf q
    refine am_Wrun 1 (ps := []) (pc' := 8) (lv' := [(0, .inr (.inl (some 0))), (1, .inl (a0)), (2, .inl (a1))]) (st' := [.inl (a1)]) (M' := M2) rfl trivial ?_
    refine am_WcallS (y := 78) (n := 1) (f := 11) (co := 0) (as := [.inl (a1)]) (st' := []) rfl rfl rfl rfl rfl rfl rfl rfl rfl (Nat.zero_le _) rfl (am_CC_le (Nat.le_of_ble_eq_true rfl) (tm_X5_isValue h)) (fun r M4 q => ?_) (fun _ _ q => q.elim)
    obtain ⟨x3, rfl, h⟩ := q
    obtain ⟨b0, ht, hf⟩ := h
    refine am_Wbr (P := [am_rg x3]) (c := ¬ x3 = 0) (t := 24) (f := 14) (st' := []) rfl rfl ⟨b0, trivial⟩ rfl (fun q => ?_) (fun q => ?_)
    · have h := ht q
      refine am_Wrun 4 (ps := [-128 ≤ (60 : Int) ∧ (60 : Int) ≤ 127]) (pc' := 33) (lv' := [(0, .inr (.inl (some 0))), (1, .inl (a0)), (2, .inl (a1))]) (st' := [.inl (60), .inl (M4 1 7)]) (M' := M4) rfl ⟨⟨by decide, by decide⟩, trivial⟩ ?_
      obtain ⟨b0, ht, hf⟩ := h
      refine am_Wbr (P := [am_rg (M4 1 7), am_rg 60]) (c := 60 ≤ (M4 1 7)) (t := 47) (f := 36) (st' := []) rfl rfl ⟨b0, (am_rgd rfl), trivial⟩ rfl (fun q => ?_) (fun q => ?_)
      · have h := ht q
        refine am_W_sub [] rfl ?_
        exact tj_X5_add_47 hX  M4 h
      · have h := hf q
        refine am_Wrun 3 (ps := []) (pc' := 41) (lv' := [(0, .inr (.inl (some 0))), (1, .inl (a0)), (2, .inl (a1))]) (st' := [.inl (a0), .inr (.inl (some 1))]) (M' := M4) rfl trivial ?_
        refine am_WcallV (y := 79) (n := 2) (a := 1) (f := 44) (as := [.inl (a0)]) (st' := []) rfl rfl rfl rfl rfl rfl rfl rfl rfl rfl (Nat.zero_le _) rfl (am_CC_le (Nat.le_of_ble_eq_true rfl) (tm_X2_hasTime h)) (fun r M6 q => ?_) (fun _ _ q => q.elim)
        obtain ⟨x5, rfl, h⟩ := q
        obtain ⟨b0, ht, hf⟩ := h
        refine am_Wbr (P := [am_rg x5]) (c := x5 = 0) (t := 57) (f := 47) (st' := []) rfl rfl ⟨b0, trivial⟩ rfl (fun q => ?_) (fun q => ?_)
        · have h := ht q
          refine am_Wrun 4 (ps := []) (pc' := 65) (lv' := [(0, .inr (.inl (some 0))), (1, .inl (a0)), (2, .inl (a1))]) (st' := [.inr (.inl (some 1)), .inr (.inl (some 14))]) (M' := M6) rfl trivial ?_
          refine am_WcallV (y := 1) (n := 2) (a := 14) (f := 68) (as := [.inr (.inl (some 1))]) (st' := []) rfl rfl rfl rfl rfl rfl rfl rfl rfl rfl (Nat.zero_le _) rfl (am_CC_le (Nat.le_of_ble_eq_true rfl) (tm_X0_remember h)) (fun r M7 q => ?_) (fun _ _ q => q.elim)
          obtain ⟨rfl, h⟩ := q
          refine am_Wrun 4 (ps := []) (pc' := 74) (lv' := [(0, .inr (.inl (some 0))), (1, .inl (a0)), (2, .inl (a1))]) (st' := [.inl (a1), .inl (a0), .inr (.inl (some 1))]) (M' := M7) rfl trivial ?_
          refine am_WcallV (y := 80) (n := 3) (a := 1) (f := 77) (as := [.inl (a0), .inl (a1)]) (st' := []) rfl rfl rfl rfl rfl rfl rfl rfl rfl rfl (Nat.zero_le _) rfl (am_CC_le (Nat.le_of_ble_eq_true rfl) (tm_X2_insert h)) (fun r M9 q => ?_) (fun _ _ q => q.elim)
          obtain ⟨x8, rfl, h⟩ := q
          refine am_Wrun 2 (ps := []) (pc' := 79) (lv' := [(3, .inl (x8)), (0, .inr (.inl (some 0))), (1, .inl (a0)), (2, .inl (a1))]) (st' := [.inr (.inl (some 0))]) (M' := M9) rfl trivial ?_
          refine am_WcallV (y := 82) (n := 1) (a := 0) (f := 82) (as := []) (st' := []) rfl rfl rfl rfl rfl rfl rfl rfl rfl rfl (Nat.zero_le _) rfl (am_CC_le (Nat.le_of_ble_eq_true rfl) (tm_X5_pointsChanged h)) (fun r M10 q => ?_) (fun _ _ q => q.elim)
          obtain ⟨rfl, h⟩ := q
          refine am_Wrun 1 (ps := []) (pc' := 83) (lv' := [(3, .inl (x8)), (0, .inr (.inl (some 0))), (1, .inl (a0)), (2, .inl (a1))]) (st' := [.inl (x8)]) (M' := M10) rfl trivial ?_
          exact am_Wreti rfl rfl h
        · have h := hf q
          refine am_W_sub [] rfl ?_
          exact tj_X5_add_47 hX  M6 h
    · have h := hf q
      refine am_W_sub [] rfl ?_
      exact tj_X5_add_14 hX  M4 h
abbrev dt_L_add : am_D := (tk_L_add, 9, 5, some .int, tb_hn 199)
def wp_L_add (a1 : Int) (a2 : Int) (M : am_M) (Q : Int → am_M → Prop) : Prop := wp_X5_add a1 a2 M (fun x1 M2 => (am_rg x1) ∧ (Q 0 (am_up M2 80 0 x1))) (fun E M3 => (E = 0 ∧ Q 1 M3) ∨ (E = 1 ∧ Q 2 M3))
set_option maxRecDepth 20000 in
theorem tm_L_add {a1 a2 : Int} {M : am_M} {Q : Int → am_M → Prop} (h : wp_L_add a1 a2 M Q) : am_CC 7 199 [.inr (.inl (some 0)), .inl (a1), .inl (a2), .inr (.inl (some 80))] M (am_QI Q) (fun _ _ => False) := by
  refine ⟨Nat.le_of_ble_eq_true rfl, ?_⟩
  show am_W (am_CC 6) dt_L_add 6 1 none (am_QI Q) (am_qx 199 (fun _ _ => False)) (0, 0, [(0, .inr (.inl (some 0))), (1, .inl (a1)), (2, .inl (a2)), (3, .inr (.inl (some 80)))], [], M)
  refine am_Wrun 5 (ps := []) (pc' := 5) (lv' := [(0, .inr (.inl (some 0))), (1, .inl (a1)), (2, .inl (a2)), (3, .inr (.inl (some 80)))]) (st' := [.inl (a2), .inl (a1), .inr (.inl (some 0)), .inl (0), .inr (.inl (some 80))]) (M' := M) rfl trivial ?_
  refine am_WcallV (y := 76) (n := 3) (a := 0) (f := 8) (as := [.inl (a1), .inl (a2)]) (st' := [.inl (0), .inr (.inl (some 80))]) rfl rfl rfl rfl rfl rfl rfl rfl rfl rfl (Nat.zero_le _) rfl (am_CC_le (Nat.le_of_ble_eq_true rfl) (tm_X5_add h)) (fun r M2 q => ?_) (fun E M3 q => ?_)
  · obtain ⟨x1, rfl, h⟩ := q
    obtain ⟨c0_0, h⟩ := h
    refine am_Wrun 4 (ps := [am_rg x1, 0 ≤ (0 : Int) ∧ (0 : Int) < 1]) (pc' := 22) (lv' := [(0, .inr (.inl (some 0))), (1, .inl (a1)), (2, .inl (a2)), (3, .inr (.inl (some 80)))]) (st' := [.inl (0)]) (M' := (am_up M2 80 0 x1)) rfl ⟨c0_0, ⟨by decide, by decide⟩, trivial⟩ ?_
    exact am_Wreti rfl rfl h
  · rcases q with ⟨rfl, h⟩ | ⟨rfl, h⟩
    · show 0 + 1 ≤ 1 ∧ am_W (am_CC 6) dt_L_add 6 1 none (am_QI Q) _ (0 + 1, 15, [(0, .inr (.inl (some 0))), (1, .inl (a1)), (2, .inl (a2)), (3, .inr (.inl (some 80)))], [], M3)
      refine ⟨Nat.le_refl _, ?_⟩
      refine am_Wrun 1 (ps := []) (pc' := 16) (lv' := [(0, .inr (.inl (some 0))), (1, .inl (a1)), (2, .inl (a2)), (3, .inr (.inl (some 80)))]) (st' := [.inl (1)]) (M' := M3) rfl trivial ?_
      exact am_Wreti rfl rfl h
    · show 0 + 1 ≤ 1 ∧ am_W (am_CC 6) dt_L_add 6 1 none (am_QI Q) _ (0 + 1, 19, [(0, .inr (.inl (some 0))), (1, .inl (a1)), (2, .inl (a2)), (3, .inr (.inl (some 80)))], [], M3)
      refine ⟨Nat.le_refl _, ?_⟩
      refine am_Wrun 1 (ps := []) (pc' := 20) (lv' := [(0, .inr (.inl (some 0))), (1, .inl (a1)), (2, .inl (a2)), (3, .inr (.inl (some 80)))]) (st' := [.inl (2)]) (M' := M3) rfl trivial ?_
      exact am_Wreti rfl rfl h
abbrev dt_X6_in : am_D := (tk_X6_in, 6, 3, some .boolean, tb_hn 112)
def wp_X6_in (a0 : Int) (a1 : Int) (a2 : Int) (M : am_M) (Q : Int → am_M → Prop) : Prop := (am_rg a0) ∧ (am_rg a1) ∧ (a0 < a1 → Q 0 M) ∧ (¬ a0 < a1 → (am_rg a0) ∧ (am_rg a2) ∧ (a2 < a0 → Q 0 M) ∧ (¬ a2 < a0 → Q 1 M))
set_option maxRecDepth 20000 in
theorem tm_X6_in {a0 a1 a2 : Int} {M : am_M} {Q : Int → am_M → Prop} (h : wp_X6_in a0 a1 a2 M Q) : am_CC 1 112 [.inl (a0), .inl (a1), .inl (a2)] M (am_QI Q) (fun _ _ => False) := by
  refine ⟨Nat.le_of_ble_eq_true rfl, ?_⟩
  show am_W (am_CC 0) dt_X6_in 0 0 none (am_QI Q) (am_qx 112 (fun _ _ => False)) (0, 0, [(0, .inl (a0)), (1, .inl (a1)), (2, .inl (a2))], [], M)
  refine am_Wrun 2 (ps := []) (pc' := 2) (lv' := [(0, .inl (a0)), (1, .inl (a1)), (2, .inl (a2))]) (st' := [.inl (a1), .inl (a0)]) (M' := M) rfl trivial ?_
  obtain ⟨b0, b1, ht, hf⟩ := h
  refine am_Wbr (P := [am_rg a0, am_rg a1]) (c := a0 < a1) (t := 14) (f := 5) (st' := []) rfl rfl ⟨b0, b1, trivial⟩ rfl (fun q => ?_) (fun q => ?_)
  · have h := ht q
    refine am_Wrun 1 (ps := []) (pc' := 15) (lv' := [(0, .inl (a0)), (1, .inl (a1)), (2, .inl (a2))]) (st' := [.inl (0)]) (M' := M) rfl trivial ?_
    exact am_Wretz rfl rfl (Or.inl rfl) h
  · have h := hf q
    refine am_Wrun 2 (ps := []) (pc' := 7) (lv' := [(0, .inl (a0)), (1, .inl (a1)), (2, .inl (a2))]) (st' := [.inl (a2), .inl (a0)]) (M' := M) rfl trivial ?_
    obtain ⟨b0, b1, ht, hf⟩ := h
    refine am_Wbr (P := [am_rg a0, am_rg a2]) (c := a2 < a0) (t := 14) (f := 10) (st' := []) rfl rfl ⟨b0, b1, trivial⟩ rfl (fun q => ?_) (fun q => ?_)
    · have h := ht q
      refine am_Wrun 1 (ps := []) (pc' := 15) (lv' := [(0, .inl (a0)), (1, .inl (a1)), (2, .inl (a2))]) (st' := [.inl (0)]) (M' := M) rfl trivial ?_
      exact am_Wretz rfl rfl (Or.inl rfl) h
    · have h := hf q
      refine am_Wrun 2 (ps := []) (pc' := 15) (lv' := [(0, .inl (a0)), (1, .inl (a1)), (2, .inl (a2))]) (st' := [.inl (1)]) (M' := M) rfl trivial ?_
      exact am_Wretz rfl rfl (Or.inr rfl) h
abbrev dt_X6_isEntry : am_D := (tk_X6_isEntry, 6, 2, some .boolean, tb_hn 111)
def wp_X6_isEntry (a0 : Int) (a1 : Int) (M : am_M) (Q : Int → am_M → Prop) : Prop := wp_X6_in a0 0 9999 M (fun x1 M2 => (am_rg x1) ∧ (x1 = 0 → Q 0 M2) ∧ (¬ x1 = 0 → wp_X6_in a1 (-999) 999 M2 (fun x3 M4 => (am_rg x3) ∧ (x3 = 0 → Q 0 M4) ∧ (¬ x3 = 0 → Q 1 M4))))
set_option maxRecDepth 20000 in
theorem tm_X6_isEntry {a0 a1 : Int} {M : am_M} {Q : Int → am_M → Prop} (h : wp_X6_isEntry a0 a1 M Q) : am_CC 2 111 [.inl (a0), .inl (a1)] M (am_QI Q) (fun _ _ => False) := by
  refine ⟨Nat.le_of_ble_eq_true rfl, ?_⟩
  show am_W (am_CC 1) dt_X6_isEntry 1 0 none (am_QI Q) (am_qx 111 (fun _ _ => False)) (0, 0, [(0, .inl (a0)), (1, .inl (a1))], [], M)
  refine am_Wrun 3 (ps := [-32768 ≤ (9999 : Int) ∧ (9999 : Int) ≤ 32767]) (pc' := 5) (lv' := [(0, .inl (a0)), (1, .inl (a1))]) (st' := [.inl (9999), .inl (0), .inl (a0)]) (M' := M) rfl ⟨⟨by decide, by decide⟩, trivial⟩ ?_
  refine am_WcallS (y := 112) (n := 3) (f := 8) (co := 0) (as := [.inl (a0), .inl (0), .inl (9999)]) (st' := []) rfl rfl rfl rfl rfl rfl rfl rfl rfl (Nat.zero_le _) rfl (am_CC_le (Nat.le_of_ble_eq_true rfl) (tm_X6_in h)) (fun r M2 q => ?_) (fun _ _ q => q.elim)
  obtain ⟨x1, rfl, h⟩ := q
  obtain ⟨b0, ht, hf⟩ := h
  refine am_Wbr (P := [am_rg x1]) (c := x1 = 0) (t := 28) (f := 11) (st' := []) rfl rfl ⟨b0, trivial⟩ rfl (fun q => ?_) (fun q => ?_)
  · have h := ht q
    refine am_Wrun 1 (ps := []) (pc' := 29) (lv' := [(0, .inl (a0)), (1, .inl (a1))]) (st' := [.inl (0)]) (M' := M2) rfl trivial ?_
    exact am_Wretz rfl rfl (Or.inl rfl) h
  · have h := hf q
    refine am_Wrun 3 (ps := [-32768 ≤ ((-999) : Int) ∧ ((-999) : Int) ≤ 32767, -32768 ≤ (999 : Int) ∧ (999 : Int) ≤ 32767]) (pc' := 18) (lv' := [(0, .inl (a0)), (1, .inl (a1))]) (st' := [.inl (999), .inl ((-999)), .inl (a1)]) (M' := M2) rfl ⟨⟨by decide, by decide⟩, ⟨by decide, by decide⟩, trivial⟩ ?_
    refine am_WcallS (y := 112) (n := 3) (f := 21) (co := 0) (as := [.inl (a1), .inl ((-999)), .inl (999)]) (st' := []) rfl rfl rfl rfl rfl rfl rfl rfl rfl (Nat.zero_le _) rfl (am_CC_le (Nat.le_of_ble_eq_true rfl) (tm_X6_in h)) (fun r M4 q => ?_) (fun _ _ q => q.elim)
    obtain ⟨x3, rfl, h⟩ := q
    obtain ⟨b0, ht, hf⟩ := h
    refine am_Wbr (P := [am_rg x3]) (c := x3 = 0) (t := 28) (f := 24) (st' := []) rfl rfl ⟨b0, trivial⟩ rfl (fun q => ?_) (fun q => ?_)
    · have h := ht q
      refine am_Wrun 1 (ps := []) (pc' := 29) (lv' := [(0, .inl (a0)), (1, .inl (a1))]) (st' := [.inl (0)]) (M' := M4) rfl trivial ?_
      exact am_Wretz rfl rfl (Or.inl rfl) h
    · have h := hf q
      refine am_Wrun 2 (ps := []) (pc' := 29) (lv' := [(0, .inl (a0)), (1, .inl (a1))]) (st' := [.inl (1)]) (M' := M4) rfl trivial ?_
      exact am_Wretz rfl rfl (Or.inr rfl) h
abbrev dt_X6_fails : am_D := (tk_X6_fails, 6, 2, some .int, tb_hn 113)
def wp_X6_fails (a0 : Int) (M : am_M) (Q : Int → am_M → Prop) : Prop := Q 0 (am_up M 69 5 a0)
set_option maxRecDepth 20000 in
theorem tm_X6_fails {a0 : Int} {M : am_M} {Q : Int → am_M → Prop} (h : wp_X6_fails a0 M Q) : am_CC 1 113 [.inr (.inl (some 69)), .inl (a0)] M (am_QI Q) (fun _ _ => False) := by
  refine ⟨Nat.le_of_ble_eq_true rfl, ?_⟩
  show am_W (am_CC 0) dt_X6_fails 0 0 none (am_QI Q) (am_qx 113 (fun _ _ => False)) (0, 0, [(0, .inr (.inl (some 69))), (1, .inl (a0))], [], M)
  refine am_Wrun 4 (ps := []) (pc' := 6) (lv' := [(0, .inr (.inl (some 69))), (1, .inl (a0))]) (st' := [.inl (0)]) (M' := (am_up M 69 5 a0)) rfl trivial ?_
  exact am_Wreti rfl rfl h
abbrev dt_X6_time : am_D := (tk_X6_time, 6, 2, some .int, tb_hn 115)
def wp_X6_time (a0 : Int) (M : am_M) (Q : Int → am_M → Prop) : Prop := (0 ≤ (7 + a0 : Int) ∧ (7 + a0 : Int) < 203) ∧ (Q (M 70 (7 + a0)) M)
set_option maxRecDepth 20000 in
theorem tm_X6_time {a0 : Int} {M : am_M} {Q : Int → am_M → Prop} (h : wp_X6_time a0 M Q) : am_CC 1 115 [.inr (.inl (some 69)), .inl (a0)] M (am_QI Q) (fun _ _ => False) := by
  refine ⟨Nat.le_of_ble_eq_true rfl, ?_⟩
  show am_W (am_CC 0) dt_X6_time 0 0 none (am_QI Q) (am_qx 115 (fun _ _ => False)) (0, 0, [(0, .inr (.inl (some 69))), (1, .inl (a0))], [], M)
  obtain ⟨c1_0, h⟩ := h
  refine am_Wrun 6 (ps := [-128 ≤ (7 : Int) ∧ (7 : Int) ≤ 127, 0 ≤ (7 + a0 : Int) ∧ (7 + a0 : Int) < 203]) (pc' := 9) (lv' := [(0, .inr (.inl (some 69))), (1, .inl (a0))]) (st' := [.inl (M 70 (7 + a0))]) (M' := M) rfl ⟨⟨by decide, by decide⟩, c1_0, trivial⟩ ?_
  exact am_Wreti rfl rfl h
abbrev dt_X6_hasTime : am_D := (tk_X6_hasTime, 6, 4, some .boolean, tb_hn 114)
def wl_X6_hasTime_4 (Q : Int → am_M → Prop) : Nat → Int → Int → Int → am_M → Prop
  | 0, _, _, _, _ => False
  | n + 1, v1, v2, v3, M => (am_rg v3) ∧ (am_rg (M 70 0)) ∧ ((M 70 0) ≤ v3 → (v2 = 0 ∨ v2 = 1) ∧ Q v2 M) ∧ (¬ (M 70 0) ≤ v3 → (am_rg v2) ∧ (¬ v2 = 0 → wl_X6_hasTime_4 Q n v1 1 (v3 + 1) M) ∧ (¬ (¬ v2 = 0) → wp_X6_time v3 M (fun x1 M2 => (am_rg x1) ∧ (am_rg v1) ∧ (¬ x1 = v1 → wl_X6_hasTime_4 Q n v1 0 (v3 + 1) M2) ∧ (¬ (¬ x1 = v1) → wl_X6_hasTime_4 Q n v1 1 (v3 + 1) M2))))
def wp_X6_hasTime (a0 : Int) (M : am_M) (Q : Int → am_M → Prop) : Prop := ∃ e4, wl_X6_hasTime_4 Q e4 a0 0 0 M
set_option maxRecDepth 20000 in
theorem tw_X6_hasTime_4 {Q : Int → am_M → Prop} {QX : am_X} : ∀ (n : Nat) (v1 : Int) (v2 : Int) (v3 : Int) (M : am_M), wl_X6_hasTime_4 Q n v1 v2 v3 M → am_W (am_CC 1) dt_X6_hasTime 1 0 none (am_QI Q) QX (0, 4, [(0, .inr (.inl (some 69))), (1, .inl (v1)), (2, .inl (v2)), (3, .inl (v3))], [], M)
  | 0, _, _, _, _, h => h.elim
  | n + 1, v1, v2, v3, M, h => by
    refine am_Wrun 5 (ps := [0 ≤ (0 : Int) ∧ (0 : Int) < 203]) (pc' := 11) (lv' := [(0, .inr (.inl (some 69))), (1, .inl (v1)), (2, .inl (v2)), (3, .inl (v3))]) (st' := [.inl (M 70 0), .inl (v3)]) (M' := M) rfl ⟨⟨by decide, by decide⟩, trivial⟩ ?_
    obtain ⟨b0, b1, ht, hf⟩ := h
    refine am_Wbr (P := [am_rg v3, am_rg (M 70 0)]) (c := (M 70 0) ≤ v3) (t := 39) (f := 14) (st' := []) rfl rfl ⟨b0, b1, trivial⟩ rfl (fun q => ?_) (fun q => ?_)
    · have h := ht q
      refine am_Wrun 1 (ps := []) (pc' := 40) (lv' := [(0, .inr (.inl (some 69))), (1, .inl (v1)), (2, .inl (v2)), (3, .inl (v3))]) (st' := [.inl (v2)]) (M' := M) rfl trivial ?_
      exact am_Wretz rfl rfl h.1 h.2
    · have h := hf q
      refine am_Wrun 1 (ps := []) (pc' := 15) (lv' := [(0, .inr (.inl (some 69))), (1, .inl (v1)), (2, .inl (v2)), (3, .inl (v3))]) (st' := [.inl (v2)]) (M' := M) rfl trivial ?_
      obtain ⟨b0, ht, hf⟩ := h
      refine am_Wbr (P := [am_rg v2]) (c := ¬ v2 = 0) (t := 27) (f := 18) (st' := []) rfl rfl ⟨b0, trivial⟩ rfl (fun q => ?_) (fun q => ?_)
      · have h := ht q
        refine am_Wrun 5 (ps := []) (pc' := 4) (lv' := [(3, .inl (v3 + 1)), (2, .inl (1)), (0, .inr (.inl (some 69))), (1, .inl (v1))]) (st' := []) (M' := M) rfl trivial ?_
        refine am_W_sub [2, 3, 1, 0] rfl ?_
        exact tw_X6_hasTime_4 n v1 1 (v3 + 1) M h
      · have h := hf q
        refine am_Wrun 2 (ps := []) (pc' := 20) (lv' := [(0, .inr (.inl (some 69))), (1, .inl (v1)), (2, .inl (v2)), (3, .inl (v3))]) (st' := [.inl (v3), .inr (.inl (some 69))]) (M' := M) rfl trivial ?_
        refine am_WcallV (y := 115) (n := 2) (a := 69) (f := 23) (as := [.inl (v3)]) (st' := []) rfl rfl rfl rfl rfl rfl rfl rfl rfl rfl (Nat.zero_le _) rfl (am_CC_le (Nat.le_of_ble_eq_true rfl) (tm_X6_time h)) (fun r M2 q => ?_) (fun _ _ q => q.elim)
        obtain ⟨x1, rfl, h⟩ := q
        refine am_Wrun 1 (ps := []) (pc' := 24) (lv' := [(0, .inr (.inl (some 69))), (1, .inl (v1)), (2, .inl (v2)), (3, .inl (v3))]) (st' := [.inl (v1), .inl (x1)]) (M' := M2) rfl trivial ?_
        obtain ⟨b0, b1, ht, hf⟩ := h
        refine am_Wbr (P := [am_rg x1, am_rg v1]) (c := ¬ x1 = v1) (t := 31) (f := 27) (st' := []) rfl rfl ⟨b0, b1, trivial⟩ rfl (fun q => ?_) (fun q => ?_)
        · have h := ht q
          refine am_Wrun 4 (ps := []) (pc' := 4) (lv' := [(3, .inl (v3 + 1)), (2, .inl (0)), (0, .inr (.inl (some 69))), (1, .inl (v1))]) (st' := []) (M' := M2) rfl trivial ?_
          refine am_W_sub [2, 3, 1, 0] rfl ?_
          exact tw_X6_hasTime_4 n v1 0 (v3 + 1) M2 h
        · have h := hf q
          refine am_Wrun 5 (ps := []) (pc' := 4) (lv' := [(3, .inl (v3 + 1)), (2, .inl (1)), (0, .inr (.inl (some 69))), (1, .inl (v1))]) (st' := []) (M' := M2) rfl trivial ?_
          refine am_W_sub [2, 3, 1, 0] rfl ?_
          exact tw_X6_hasTime_4 n v1 1 (v3 + 1) M2 h
set_option maxRecDepth 20000 in
theorem tm_X6_hasTime {a0 : Int} {M : am_M} {Q : Int → am_M → Prop} (h : wp_X6_hasTime a0 M Q) : am_CC 2 114 [.inr (.inl (some 69)), .inl (a0)] M (am_QI Q) (fun _ _ => False) := by
  refine ⟨Nat.le_of_ble_eq_true rfl, ?_⟩
  show am_W (am_CC 1) dt_X6_hasTime 1 0 none (am_QI Q) (am_qx 114 (fun _ _ => False)) (0, 0, [(0, .inr (.inl (some 69))), (1, .inl (a0))], [], M)
  refine am_Wrun 4 (ps := []) (pc' := 4) (lv' := [(3, .inl (0)), (2, .inl (0)), (0, .inr (.inl (some 69))), (1, .inl (a0))]) (st' := []) (M' := M) rfl trivial ?_
  refine am_W_sub [2, 3, 1, 0] rfl ?_
  obtain ⟨n4, h⟩ := h
  exact tw_X6_hasTime_4 n4 a0 0 0 M h
abbrev dt_X6_save : am_D := (tk_X6_save, 6, 2, none, tb_hn 116)
def wl_X6_save_52 (Q : am_M → Prop) : Nat → Int → am_M → Prop
  | 0, _, _ => False
  | n + 1, v1, M => (am_rg v1) ∧ (203 ≤ v1 → Q (am_up M 69 2 ((M 69 2) + 1))) ∧ (¬ 203 ≤ v1 → (0 ≤ (v1 : Int) ∧ (v1 : Int) < 203) ∧ (0 ≤ ((203 * (M 69 2)) + v1 : Int) ∧ ((203 * (M 69 2)) + v1 : Int) < 1218) ∧ (wl_X6_save_52 Q n (v1 + 1) (am_up M 71 ((203 * (M 69 2)) + v1) (M 70 v1))))
def wl_X6_save_11 (Q : am_M → Prop) : Nat → Int → am_M → Prop
  | 0, _, _ => False
  | n + 1, v1, M => (am_rg v1) ∧ (1015 ≤ v1 → ∃ e52, wl_X6_save_52 Q e52 0 (am_up M 69 2 ((M 69 2) - 1))) ∧ (¬ 1015 ≤ v1 → (0 ≤ (v1 + 203 : Int) ∧ (v1 + 203 : Int) < 1218) ∧ (0 ≤ (v1 : Int) ∧ (v1 : Int) < 1218) ∧ (wl_X6_save_11 Q n (v1 + 1) (am_up M 71 v1 (M 71 (v1 + 203)))))
def wp_X6_save (M : am_M) (Q : am_M → Prop) : Prop := (am_rg (M 69 2)) ∧ (¬ (M 69 2) = 6 → ∃ e52, wl_X6_save_52 Q e52 0 M) ∧ (¬ (¬ (M 69 2) = 6) → ∃ e11, wl_X6_save_11 Q e11 0 M)
set_option maxRecDepth 20000 in
theorem tw_X6_save_52 {Q : am_M → Prop} {QX : am_X} : ∀ (n : Nat) (v1 : Int) (M : am_M), wl_X6_save_52 Q n v1 M → am_W (am_CC 0) dt_X6_save 0 0 none (am_QV Q) QX (0, 52, [(0, .inr (.inl (some 69))), (1, .inl (v1))], [], M)
  | 0, _, _, h => h.elim
  | n + 1, v1, M, h => by
    refine am_Wrun 2 (ps := [-32768 ≤ (203 : Int) ∧ (203 : Int) ≤ 32767]) (pc' := 56) (lv' := [(0, .inr (.inl (some 69))), (1, .inl (v1))]) (st' := [.inl (203), .inl (v1)]) (M' := M) rfl ⟨⟨by decide, by decide⟩, trivial⟩ ?_
    obtain ⟨b0, ht, hf⟩ := h
    refine am_Wbr (P := [am_rg v1, am_rg 203]) (c := 203 ≤ v1) (t := 86) (f := 59) (st' := []) rfl rfl ⟨b0, (am_rgd rfl), trivial⟩ rfl (fun q => ?_) (fun q => ?_)
    · have h := ht q
      refine am_Wrun 6 (ps := []) (pc' := 96) (lv' := [(0, .inr (.inl (some 69))), (1, .inl (v1))]) (st' := []) (M' := (am_up M 69 2 ((M 69 2) + 1))) rfl trivial ?_
      exact am_Wretv rfl rfl h
    · have h := hf q
      obtain ⟨c1_0, c2_0, h⟩ := h
      refine am_Wrun 15 (ps := [-32768 ≤ (203 : Int) ∧ (203 : Int) ≤ 32767, 0 ≤ (v1 : Int) ∧ (v1 : Int) < 203, 0 ≤ ((203 * (M 69 2)) + v1 : Int) ∧ ((203 * (M 69 2)) + v1 : Int) < 1218]) (pc' := 52) (lv' := [(1, .inl (v1 + 1)), (0, .inr (.inl (some 69)))]) (st' := []) (M' := (am_up M 71 ((203 * (M 69 2)) + v1) (M 70 v1))) rfl ⟨⟨by decide, by decide⟩, c1_0, c2_0, trivial⟩ ?_
      refine am_W_sub [1, 0] rfl ?_
      exact tw_X6_save_52 n (v1 + 1) (am_up M 71 ((203 * (M 69 2)) + v1) (M 70 v1)) h
set_option maxRecDepth 20000 in
theorem tw_X6_save_11 {Q : am_M → Prop} {QX : am_X} : ∀ (n : Nat) (v1 : Int) (M : am_M), wl_X6_save_11 Q n v1 M → am_W (am_CC 0) dt_X6_save 0 0 none (am_QV Q) QX (0, 11, [(0, .inr (.inl (some 69))), (1, .inl (v1))], [], M)
  | 0, _, _, h => h.elim
  | n + 1, v1, M, h => by
    refine am_Wrun 2 (ps := [-32768 ≤ (1015 : Int) ∧ (1015 : Int) ≤ 32767]) (pc' := 15) (lv' := [(0, .inr (.inl (some 69))), (1, .inl (v1))]) (st' := [.inl (1015), .inl (v1)]) (M' := M) rfl ⟨⟨by decide, by decide⟩, trivial⟩ ?_
    obtain ⟨b0, ht, hf⟩ := h
    refine am_Wbr (P := [am_rg v1, am_rg 1015]) (c := 1015 ≤ v1) (t := 40) (f := 18) (st' := []) rfl rfl ⟨b0, (am_rgd rfl), trivial⟩ rfl (fun q => ?_) (fun q => ?_)
    · have h := ht q
      refine am_Wrun 8 (ps := []) (pc' := 52) (lv' := [(1, .inl (0)), (0, .inr (.inl (some 69)))]) (st' := []) (M' := (am_up M 69 2 ((M 69 2) - 1))) rfl trivial ?_
      refine am_W_sub [1, 0] rfl ?_
      obtain ⟨n52, h⟩ := h
      exact tw_X6_save_52 n52 0 (am_up M 69 2 ((M 69 2) - 1)) h
    · have h := hf q
      obtain ⟨c1_0, c2_0, h⟩ := h
      refine am_Wrun 12 (ps := [-32768 ≤ (203 : Int) ∧ (203 : Int) ≤ 32767, 0 ≤ (v1 + 203 : Int) ∧ (v1 + 203 : Int) < 1218, 0 ≤ (v1 : Int) ∧ (v1 : Int) < 1218]) (pc' := 11) (lv' := [(1, .inl (v1 + 1)), (0, .inr (.inl (some 69)))]) (st' := []) (M' := (am_up M 71 v1 (M 71 (v1 + 203)))) rfl ⟨⟨by decide, by decide⟩, c1_0, c2_0, trivial⟩ ?_
      refine am_W_sub [1, 0] rfl ?_
      exact tw_X6_save_11 n (v1 + 1) (am_up M 71 v1 (M 71 (v1 + 203))) h
set_option maxRecDepth 20000 in
theorem tm_X6_save {M : am_M} {Q : am_M → Prop} (h : wp_X6_save M Q) : am_CC 1 116 [.inr (.inl (some 69))] M (am_QV Q) (fun _ _ => False) := by
  refine ⟨Nat.le_of_ble_eq_true rfl, ?_⟩
  show am_W (am_CC 0) dt_X6_save 0 0 none (am_QV Q) (am_qx 116 (fun _ _ => False)) (0, 0, [(0, .inr (.inl (some 69)))], [], M)
  refine am_Wrun 3 (ps := [-128 ≤ (6 : Int) ∧ (6 : Int) ≤ 127]) (pc' := 6) (lv' := [(0, .inr (.inl (some 69)))]) (st' := [.inl (6), .inl (M 69 2)]) (M' := M) rfl ⟨⟨by decide, by decide⟩, trivial⟩ ?_
  obtain ⟨b0, ht, hf⟩ := h
  refine am_Wbr (P := [am_rg (M 69 2), am_rg 6]) (c := ¬ (M 69 2) = 6) (t := 50) (f := 9) (st' := []) rfl rfl ⟨b0, (am_rgd rfl), trivial⟩ rfl (fun q => ?_) (fun q => ?_)
  · have h := ht q
    refine am_Wrun 2 (ps := []) (pc' := 52) (lv' := [(1, .inl (0)), (0, .inr (.inl (some 69)))]) (st' := []) (M' := M) rfl trivial ?_
    refine am_W_sub [1, 0] rfl ?_
    obtain ⟨n52, h⟩ := h
    exact tw_X6_save_52 n52 0 M h
  · have h := hf q
    refine am_Wrun 2 (ps := []) (pc' := 11) (lv' := [(1, .inl (0)), (0, .inr (.inl (some 69)))]) (st' := []) (M' := M) rfl trivial ?_
    refine am_W_sub [1, 0] rfl ?_
    obtain ⟨n11, h⟩ := h
    exact tw_X6_save_11 n11 0 M h
abbrev dt_X6_adds : am_D := (tk_X6_adds, 6, 4, some .int, tb_hn 117)
def wj_X6_adds_88 (Q : Int → am_M → Prop) (v1 : Int) (v2 : Int) (v3 : Int) (M : am_M) : Prop := (0 ≤ (7 + v3 : Int) ∧ (7 + v3 : Int) < 203) ∧ (0 ≤ (67 + v3 : Int) ∧ (67 + v3 : Int) < 203) ∧ (0 ≤ (127 + v3 : Int) ∧ (127 + v3 : Int) < 203) ∧ (Q v3 (am_up (am_up (am_up (am_up M 70 (7 + v3) v1) 70 (67 + v3) v2) 70 (127 + v3) 1) 70 0 (((am_up (am_up (am_up M 70 (7 + v3) v1) 70 (67 + v3) v2) 70 (127 + v3) 1) 70 0) + 1)))
def wl_X6_adds_7 (Q : Int → am_M → Prop) : Nat → Int → Int → Int → am_M → Prop
  | 0, _, _, _, _ => False
  | n + 1, v1, v2, v3, M => (am_rg v3) ∧ (v3 ≤ 0 → wj_X6_adds_88 Q v1 v2 v3 M) ∧ (¬ v3 ≤ 0 → wp_X6_time (v3 - 1) M (fun x1 M2 => (am_rg x1) ∧ (am_rg v1) ∧ (x1 ≤ v1 → wj_X6_adds_88 Q v1 v2 v3 M2) ∧ (¬ x1 ≤ v1 → (0 ≤ ((7 + v3) - 1 : Int) ∧ ((7 + v3) - 1 : Int) < 203) ∧ (0 ≤ (7 + v3 : Int) ∧ (7 + v3 : Int) < 203) ∧ (0 ≤ ((67 + v3) - 1 : Int) ∧ ((67 + v3) - 1 : Int) < 203) ∧ (0 ≤ (67 + v3 : Int) ∧ (67 + v3 : Int) < 203) ∧ (0 ≤ ((127 + v3) - 1 : Int) ∧ ((127 + v3) - 1 : Int) < 203) ∧ (0 ≤ (127 + v3 : Int) ∧ (127 + v3 : Int) < 203) ∧ (wl_X6_adds_7 Q n v1 v2 (v3 + (-1)) (am_up (am_up (am_up M2 70 (7 + v3) (M2 70 ((7 + v3) - 1))) 70 (67 + v3) ((am_up M2 70 (7 + v3) (M2 70 ((7 + v3) - 1))) 70 ((67 + v3) - 1))) 70 (127 + v3) ((am_up (am_up M2 70 (7 + v3) (M2 70 ((7 + v3) - 1))) 70 (67 + v3) ((am_up M2 70 (7 + v3) (M2 70 ((7 + v3) - 1))) 70 ((67 + v3) - 1))) 70 ((127 + v3) - 1)))))))
def wp_X6_adds (a0 : Int) (a1 : Int) (M : am_M) (Q : Int → am_M → Prop) : Prop := ∃ e7, wl_X6_adds_7 Q e7 a0 a1 (M 70 0) M
set_option maxRecDepth 20000 in
theorem tj_X6_adds_88 {Q : Int → am_M → Prop} {QX : am_X} (v1 : Int) (v2 : Int) (v3 : Int) (M : am_M) (h : wj_X6_adds_88 Q v1 v2 v3 M) : am_W (am_CC 1) dt_X6_adds 1 0 none (am_QI Q) QX (0, 88, [(0, .inr (.inl (some 69))), (1, .inl (v1)), (2, .inl (v2)), (3, .inl (v3))], [], M) := by
  obtain ⟨c1_0, c3_0, c5_0, h⟩ := h
  refine am_Wrun 30 (ps := [-128 ≤ (7 : Int) ∧ (7 : Int) ≤ 127, 0 ≤ (7 + v3 : Int) ∧ (7 + v3 : Int) < 203, -128 ≤ (67 : Int) ∧ (67 : Int) ≤ 127, 0 ≤ (67 + v3 : Int) ∧ (67 + v3 : Int) < 203, -128 ≤ (127 : Int) ∧ (127 : Int) ≤ 127, 0 ≤ (127 + v3 : Int) ∧ (127 + v3 : Int) < 203, 0 ≤ (0 : Int) ∧ (0 : Int) < 203, 0 ≤ (0 : Int) ∧ (0 : Int) < 203]) (pc' := 129) (lv' := [(0, .inr (.inl (some 69))), (1, .inl (v1)), (2, .inl (v2)), (3, .inl (v3))]) (st' := [.inl (v3)]) (M' := (am_up (am_up (am_up (am_up M 70 (7 + v3) v1) 70 (67 + v3) v2) 70 (127 + v3) 1) 70 0 (((am_up (am_up (am_up M 70 (7 + v3) v1) 70 (67 + v3) v2) 70 (127 + v3) 1) 70 0) + 1))) rfl ⟨⟨by decide, by decide⟩, c1_0, ⟨by decide, by decide⟩, c3_0, ⟨by decide, by decide⟩, c5_0, ⟨by decide, by decide⟩, ⟨by decide, by decide⟩, trivial⟩ ?_
  exact am_Wreti rfl rfl h
set_option maxRecDepth 20000 in
theorem tw_X6_adds_7 {Q : Int → am_M → Prop} {QX : am_X} : ∀ (n : Nat) (v1 : Int) (v2 : Int) (v3 : Int) (M : am_M), wl_X6_adds_7 Q n v1 v2 v3 M → am_W (am_CC 1) dt_X6_adds 1 0 none (am_QI Q) QX (0, 7, [(0, .inr (.inl (some 69))), (1, .inl (v1)), (2, .inl (v2)), (3, .inl (v3))], [], M)
  | 0, _, _, _, _, h => h.elim
  | n + 1, v1, v2, v3, M, h => by
    refine am_Wrun 1 (ps := []) (pc' := 8) (lv' := [(0, .inr (.inl (some 69))), (1, .inl (v1)), (2, .inl (v2)), (3, .inl (v3))]) (st' := [.inl (v3)]) (M' := M) rfl trivial ?_
    obtain ⟨b0, ht, hf⟩ := h
    refine am_Wbr (P := [am_rg v3]) (c := v3 ≤ 0) (t := 88) (f := 11) (st' := []) rfl rfl ⟨b0, trivial⟩ rfl (fun q => ?_) (fun q => ?_)
    · have h := ht q
      refine am_W_sub [0, 1, 2, 3] rfl ?_
      exact tj_X6_adds_88 v1 v2 v3 M h
    · have h := hf q
      refine am_Wrun 4 (ps := []) (pc' := 15) (lv' := [(0, .inr (.inl (some 69))), (1, .inl (v1)), (2, .inl (v2)), (3, .inl (v3))]) (st' := [.inl (v3 - 1), .inr (.inl (some 69))]) (M' := M) rfl trivial ?_
      refine am_WcallV (y := 115) (n := 2) (a := 69) (f := 18) (as := [.inl (v3 - 1)]) (st' := []) rfl rfl rfl rfl rfl rfl rfl rfl rfl rfl (Nat.zero_le _) rfl (am_CC_le (Nat.le_of_ble_eq_true rfl) (tm_X6_time h)) (fun r M2 q => ?_) (fun _ _ q => q.elim)
      obtain ⟨x1, rfl, h⟩ := q
      refine am_Wrun 1 (ps := []) (pc' := 19) (lv' := [(0, .inr (.inl (some 69))), (1, .inl (v1)), (2, .inl (v2)), (3, .inl (v3))]) (st' := [.inl (v1), .inl (x1)]) (M' := M2) rfl trivial ?_
      obtain ⟨b0, b1, ht, hf⟩ := h
      refine am_Wbr (P := [am_rg x1, am_rg v1]) (c := x1 ≤ v1) (t := 88) (f := 22) (st' := []) rfl rfl ⟨b0, b1, trivial⟩ rfl (fun q => ?_) (fun q => ?_)
      · have h := ht q
        refine am_W_sub [0, 1, 2, 3] rfl ?_
        exact tj_X6_adds_88 v1 v2 v3 M2 h
      · have h := hf q
        obtain ⟨c2_0, c3_0, c6_0, c7_0, c10_0, c11_0, h⟩ := h
        refine am_Wrun 44 (ps := [-128 ≤ (7 : Int) ∧ (7 : Int) ≤ 127, -128 ≤ (7 : Int) ∧ (7 : Int) ≤ 127, 0 ≤ ((7 + v3) - 1 : Int) ∧ ((7 + v3) - 1 : Int) < 203, 0 ≤ (7 + v3 : Int) ∧ (7 + v3 : Int) < 203, -128 ≤ (67 : Int) ∧ (67 : Int) ≤ 127, -128 ≤ (67 : Int) ∧ (67 : Int) ≤ 127, 0 ≤ ((67 + v3) - 1 : Int) ∧ ((67 + v3) - 1 : Int) < 203, 0 ≤ (67 + v3 : Int) ∧ (67 + v3 : Int) < 203, -128 ≤ (127 : Int) ∧ (127 : Int) ≤ 127, -128 ≤ (127 : Int) ∧ (127 : Int) ≤ 127, 0 ≤ ((127 + v3) - 1 : Int) ∧ ((127 + v3) - 1 : Int) < 203, 0 ≤ (127 + v3 : Int) ∧ (127 + v3 : Int) < 203]) (pc' := 7) (lv' := [(3, .inl (v3 + (-1))), (0, .inr (.inl (some 69))), (1, .inl (v1)), (2, .inl (v2))]) (st' := []) (M' := (am_up (am_up (am_up M2 70 (7 + v3) (M2 70 ((7 + v3) - 1))) 70 (67 + v3) ((am_up M2 70 (7 + v3) (M2 70 ((7 + v3) - 1))) 70 ((67 + v3) - 1))) 70 (127 + v3) ((am_up (am_up M2 70 (7 + v3) (M2 70 ((7 + v3) - 1))) 70 (67 + v3) ((am_up M2 70 (7 + v3) (M2 70 ((7 + v3) - 1))) 70 ((67 + v3) - 1))) 70 ((127 + v3) - 1)))) rfl ⟨⟨by decide, by decide⟩, ⟨by decide, by decide⟩, c2_0, c3_0, ⟨by decide, by decide⟩, ⟨by decide, by decide⟩, c6_0, c7_0, ⟨by decide, by decide⟩, ⟨by decide, by decide⟩, c10_0, c11_0, trivial⟩ ?_
        refine am_W_sub [1, 2, 3, 0] rfl ?_
        exact tw_X6_adds_7 n v1 v2 (v3 + (-1)) (am_up (am_up (am_up M2 70 (7 + v3) (M2 70 ((7 + v3) - 1))) 70 (67 + v3) ((am_up M2 70 (7 + v3) (M2 70 ((7 + v3) - 1))) 70 ((67 + v3) - 1))) 70 (127 + v3) ((am_up (am_up M2 70 (7 + v3) (M2 70 ((7 + v3) - 1))) 70 (67 + v3) ((am_up M2 70 (7 + v3) (M2 70 ((7 + v3) - 1))) 70 ((67 + v3) - 1))) 70 ((127 + v3) - 1))) h
set_option maxRecDepth 20000 in
theorem tm_X6_adds {a0 a1 : Int} {M : am_M} {Q : Int → am_M → Prop} (h : wp_X6_adds a0 a1 M Q) : am_CC 2 117 [.inr (.inl (some 69)), .inl (a0), .inl (a1)] M (am_QI Q) (fun _ _ => False) := by
  refine ⟨Nat.le_of_ble_eq_true rfl, ?_⟩
  show am_W (am_CC 1) dt_X6_adds 1 0 none (am_QI Q) (am_qx 117 (fun _ _ => False)) (0, 0, [(0, .inr (.inl (some 69))), (1, .inl (a0)), (2, .inl (a1))], [], M)
  refine am_Wrun 5 (ps := [0 ≤ (0 : Int) ∧ (0 : Int) < 203]) (pc' := 7) (lv' := [(3, .inl (M 70 0)), (0, .inr (.inl (some 69))), (1, .inl (a0)), (2, .inl (a1))]) (st' := []) (M' := M) rfl ⟨⟨by decide, by decide⟩, trivial⟩ ?_
  refine am_W_sub [1, 2, 3, 0] rfl ?_
  obtain ⟨n7, h⟩ := h
  exact tw_X6_adds_7 n7 a0 a1 (M 70 0) M h
abbrev dt_X6_add : am_D := (tk_X6_add, 6, 3, some .int, tb_hn 110)
def wj_X6_add_38 (Q : Int → am_M → Prop) (M : am_M) : Prop := wp_X6_fails 2 M (fun x3 M4 => Q x3 M4)
def wp_X6_add (a0 : Int) (a1 : Int) (M : am_M) (Q : Int → am_M → Prop) : Prop := wp_X6_isEntry a0 a1 (am_up M 69 5 0) (fun x1 M2 => (am_rg x1) ∧ (¬ x1 = 0 → (am_rg (M2 70 0)) ∧ ((M2 70 0) = 60 → wj_X6_add_38 Q  M2) ∧ (¬ (M2 70 0) = 60 → wp_X6_hasTime a0 M2 (fun x5 M6 => (am_rg x5) ∧ (x5 = 0 → wp_X6_save M6 (fun M7 => wp_X6_adds a0 a1 M7 (fun x8 M9 => Q x8 M9))) ∧ (¬ x5 = 0 → wj_X6_add_38 Q  M6)))) ∧ (¬ (¬ x1 = 0) → wp_X6_fails 1 M2 (fun x10 M11 => Q x10 M11)))
set_option maxRecDepth 20000 in
theorem tj_X6_add_38 {Q : Int → am_M → Prop} {QX : am_X} (M : am_M) (h : wj_X6_add_38 Q M) : am_W (am_CC 2) dt_X6_add 2 0 none (am_QI Q) QX (0, 38, [(0, .inr (.inl (some 69)))], [], M) := by
  refine am_Wrun 2 (ps := []) (pc' := 40) (lv' := [(0, .inr (.inl (some 69)))]) (st' := [.inl (2), .inr (.inl (some 69))]) (M' := M) rfl trivial ?_
  refine am_WcallV (y := 113) (n := 2) (a := 69) (f := 43) (as := [.inl (2)]) (st' := []) rfl rfl rfl rfl rfl rfl rfl rfl rfl rfl (Nat.zero_le _) rfl (am_CC_le (Nat.le_of_ble_eq_true rfl) (tm_X6_fails h)) (fun r M4 q => ?_) (fun _ _ q => q.elim)
  obtain ⟨x3, rfl, h⟩ := q
  exact am_Wreti rfl rfl h
set_option maxRecDepth 20000 in
theorem tm_X6_add {a0 a1 : Int} {M : am_M} {Q : Int → am_M → Prop} (h : wp_X6_add a0 a1 M Q) : am_CC 3 110 [.inr (.inl (some 69)), .inl (a0), .inl (a1)] M (am_QI Q) (fun _ _ => False) := by
  refine ⟨Nat.le_of_ble_eq_true rfl, ?_⟩
  show am_W (am_CC 2) dt_X6_add 2 0 none (am_QI Q) (am_qx 110 (fun _ _ => False)) (0, 0, [(0, .inr (.inl (some 69))), (1, .inl (a0)), (2, .inl (a1))], [], M)
  refine am_Wrun 5 (ps := []) (pc' := 7) (lv' := [(0, .inr (.inl (some 69))), (1, .inl (a0)), (2, .inl (a1))]) (st' := [.inl (a1), .inl (a0)]) (M' := (am_up M 69 5 0)) rfl trivial ?_
  refine am_WcallS (y := 111) (n := 2) (f := 10) (co := 0) (as := [.inl (a0), .inl (a1)]) (st' := []) rfl rfl rfl rfl rfl rfl rfl rfl rfl (Nat.zero_le _) rfl (am_CC_le (Nat.le_of_ble_eq_true rfl) (tm_X6_isEntry h)) (fun r M2 q => ?_) (fun _ _ q => q.elim)
  obtain ⟨x1, rfl, h⟩ := q
  obtain ⟨b0, ht, hf⟩ := h
  refine am_Wbr (P := [am_rg x1]) (c := ¬ x1 = 0) (t := 19) (f := 13) (st' := []) rfl rfl ⟨b0, trivial⟩ rfl (fun q => ?_) (fun q => ?_)
  · have h := ht q
    refine am_Wrun 5 (ps := [0 ≤ (0 : Int) ∧ (0 : Int) < 203, -128 ≤ (60 : Int) ∧ (60 : Int) ≤ 127]) (pc' := 27) (lv' := [(0, .inr (.inl (some 69))), (1, .inl (a0)), (2, .inl (a1))]) (st' := [.inl (60), .inl (M2 70 0)]) (M' := M2) rfl ⟨⟨by decide, by decide⟩, ⟨by decide, by decide⟩, trivial⟩ ?_
    obtain ⟨b0, ht, hf⟩ := h
    refine am_Wbr (P := [am_rg (M2 70 0), am_rg 60]) (c := (M2 70 0) = 60) (t := 38) (f := 30) (st' := []) rfl rfl ⟨b0, (am_rgd rfl), trivial⟩ rfl (fun q => ?_) (fun q => ?_)
    · have h := ht q
      refine am_W_sub [0] rfl ?_
      exact tj_X6_add_38  M2 h
    · have h := hf q
      refine am_Wrun 2 (ps := []) (pc' := 32) (lv' := [(0, .inr (.inl (some 69))), (1, .inl (a0)), (2, .inl (a1))]) (st' := [.inl (a0), .inr (.inl (some 69))]) (M' := M2) rfl trivial ?_
      refine am_WcallV (y := 114) (n := 2) (a := 69) (f := 35) (as := [.inl (a0)]) (st' := []) rfl rfl rfl rfl rfl rfl rfl rfl rfl rfl (Nat.zero_le _) rfl (am_CC_le (Nat.le_of_ble_eq_true rfl) (tm_X6_hasTime h)) (fun r M6 q => ?_) (fun _ _ q => q.elim)
      obtain ⟨x5, rfl, h⟩ := q
      obtain ⟨b0, ht, hf⟩ := h
      refine am_Wbr (P := [am_rg x5]) (c := x5 = 0) (t := 44) (f := 38) (st' := []) rfl rfl ⟨b0, trivial⟩ rfl (fun q => ?_) (fun q => ?_)
      · have h := ht q
        refine am_Wrun 1 (ps := []) (pc' := 45) (lv' := [(0, .inr (.inl (some 69))), (1, .inl (a0)), (2, .inl (a1))]) (st' := [.inr (.inl (some 69))]) (M' := M6) rfl trivial ?_
        refine am_WcallV (y := 116) (n := 1) (a := 69) (f := 48) (as := []) (st' := []) rfl rfl rfl rfl rfl rfl rfl rfl rfl rfl (Nat.zero_le _) rfl (am_CC_le (Nat.le_of_ble_eq_true rfl) (tm_X6_save h)) (fun r M7 q => ?_) (fun _ _ q => q.elim)
        obtain ⟨rfl, h⟩ := q
        refine am_Wrun 3 (ps := []) (pc' := 51) (lv' := [(0, .inr (.inl (some 69))), (1, .inl (a0)), (2, .inl (a1))]) (st' := [.inl (a1), .inl (a0), .inr (.inl (some 69))]) (M' := M7) rfl trivial ?_
        refine am_WcallV (y := 117) (n := 3) (a := 69) (f := 54) (as := [.inl (a0), .inl (a1)]) (st' := []) rfl rfl rfl rfl rfl rfl rfl rfl rfl rfl (Nat.zero_le _) rfl (am_CC_le (Nat.le_of_ble_eq_true rfl) (tm_X6_adds h)) (fun r M9 q => ?_) (fun _ _ q => q.elim)
        obtain ⟨x8, rfl, h⟩ := q
        exact am_Wreti rfl rfl h
      · have h := hf q
        refine am_W_sub [0] rfl ?_
        exact tj_X6_add_38  M6 h
  · have h := hf q
    refine am_Wrun 2 (ps := []) (pc' := 15) (lv' := [(0, .inr (.inl (some 69))), (1, .inl (a0)), (2, .inl (a1))]) (st' := [.inl (1), .inr (.inl (some 69))]) (M' := M2) rfl trivial ?_
    refine am_WcallV (y := 113) (n := 2) (a := 69) (f := 18) (as := [.inl (1)]) (st' := []) rfl rfl rfl rfl rfl rfl rfl rfl rfl rfl (Nat.zero_le _) rfl (am_CC_le (Nat.le_of_ble_eq_true rfl) (tm_X6_fails h)) (fun r M11 q => ?_) (fun _ _ q => q.elim)
    obtain ⟨x10, rfl, h⟩ := q
    exact am_Wreti rfl rfl h
abbrev dt_X6_thrown : am_D := (tk_X6_thrown, 6, 1, some .int, tb_hn 109)
def wp_X6_thrown (M : am_M) (Q : Int → am_M → Prop) : Prop := Q (M 69 5) M
set_option maxRecDepth 20000 in
theorem tm_X6_thrown {M : am_M} {Q : Int → am_M → Prop} (h : wp_X6_thrown M Q) : am_CC 1 109 [.inr (.inl (some 69))] M (am_QI Q) (fun _ _ => False) := by
  refine ⟨Nat.le_of_ble_eq_true rfl, ?_⟩
  show am_W (am_CC 0) dt_X6_thrown 0 0 none (am_QI Q) (am_qx 109 (fun _ _ => False)) (0, 0, [(0, .inr (.inl (some 69)))], [], M)
  refine am_Wrun 2 (ps := []) (pc' := 4) (lv' := [(0, .inr (.inl (some 69)))]) (st' := [.inl (M 69 5)]) (M' := M) rfl trivial ?_
  exact am_Wreti rfl rfl h
abbrev dt_X5_refuseNoPoint : am_D := (tk_X5_refuseNoPoint, 5, 2, none, tb_hn 44)
def wp_X5_refuseNoPoint (a0 : Int) (M : am_M) (Q : am_M → Prop) (X : am_X) : Prop := wp_X2_hasPoint a0 M (fun x1 M2 => (am_rg x1) ∧ (¬ x1 = 0 → Q M2) ∧ (¬ (¬ x1 = 0) → X 2 M2))
set_option maxRecDepth 20000 in
theorem tm_X5_refuseNoPoint {a0 : Int} {M : am_M} {Q : am_M → Prop} {X : am_X} (h : wp_X5_refuseNoPoint a0 M Q X) : am_CC 6 44 [.inr (.inl (some 0)), .inl (a0)] M (am_QV Q) X := by
  refine ⟨Nat.le_of_ble_eq_true rfl, ?_⟩
  show am_W (am_CC 5) dt_X5_refuseNoPoint 5 0 none (am_QV Q) (am_qx 44 X) (0, 0, [(0, .inr (.inl (some 0))), (1, .inl (a0))], [], M)
  have hX : ∀ E M, X E M → am_qx 44 X E M := fun E M q => ⟨⟨rfl, by decide⟩, q⟩
  refine am_Wrun 3 (ps := []) (pc' := 5) (lv' := [(0, .inr (.inl (some 0))), (1, .inl (a0))]) (st' := [.inl (a0), .inr (.inl (some 1))]) (M' := M) rfl trivial ?_
  refine am_WcallV (y := 9) (n := 2) (a := 1) (f := 8) (as := [.inl (a0)]) (st' := []) rfl rfl rfl rfl rfl rfl rfl rfl rfl rfl (Nat.zero_le _) rfl (am_CC_le (Nat.le_of_ble_eq_true rfl) (tm_X2_hasPoint h)) (fun r M2 q => ?_) (fun _ _ q => q.elim)
  obtain ⟨x1, rfl, h⟩ := q
  obtain ⟨b0, ht, hf⟩ := h
  refine am_Wbr (P := [am_rg x1]) (c := ¬ x1 = 0) (t := 22) (f := 11) (st' := []) rfl rfl ⟨b0, trivial⟩ rfl (fun q => ?_) (fun q => ?_)
  · have h := ht q
    exact am_Wretv rfl rfl h
  · have h := hf q
    exact am_Wthr (is := 342) (ic := 256) (E := 2) rfl (Nat.le_of_ble_eq_true rfl) rfl rfl rfl rfl (Or.inr ⟨rfl, rfl, rfl⟩) (hX _ _ h)
abbrev dt_X5_correct : am_D := (tk_X5_correct, 5, 4, some .int, tb_hn 85)
def wp_X5_correct (a0 : Int) (a1 : Int) (M : am_M) (Q : Int → am_M → Prop) (X : am_X) : Prop := wp_X5_refuseNoPoint a0 M (fun M1 => wp_X5_isValue a1 M1 (fun x2 M3 => (am_rg x2) ∧ (¬ x2 = 0 → wp_X0_remember M3 (fun M4 => (0 ≤ (a0 : Int) ∧ (a0 : Int) < 60) ∧ (0 ≤ (a0 : Int) ∧ (a0 : Int) < 60) ∧ (wp_X5_pointsChanged (am_up M4 3 a0 a1) (fun M5 => Q (M4 3 a0) M5)))) ∧ (¬ (¬ x2 = 0) → X 0 M3))) X
set_option maxRecDepth 20000 in
theorem tm_X5_correct {a0 a1 : Int} {M : am_M} {Q : Int → am_M → Prop} {X : am_X} (h : wp_X5_correct a0 a1 M Q X) : am_CC 7 85 [.inr (.inl (some 0)), .inl (a0), .inl (a1)] M (am_QI Q) X := by
  refine ⟨Nat.le_of_ble_eq_true rfl, ?_⟩
  show am_W (am_CC 6) dt_X5_correct 6 0 none (am_QI Q) (am_qx 85 X) (0, 0, [(0, .inr (.inl (some 0))), (1, .inl (a0)), (2, .inl (a1))], [], M)
  have hX : ∀ E M, X E M → am_qx 85 X E M := fun E M q => ⟨⟨rfl, by decide⟩, q⟩
  refine am_Wrun 2 (ps := []) (pc' := 2) (lv' := [(0, .inr (.inl (some 0))), (1, .inl (a0)), (2, .inl (a1))]) (st' := [.inl (a0), .inr (.inl (some 0))]) (M' := M) rfl trivial ?_
  refine am_WcallV (y := 44) (n := 2) (a := 0) (f := 5) (as := [.inl (a0)]) (st' := []) rfl rfl rfl rfl rfl rfl rfl rfl rfl rfl (Nat.zero_le _) rfl (am_CC_le (Nat.le_of_ble_eq_true rfl) (tm_X5_refuseNoPoint h)) (fun r M1 q => ?_) (fun E M q => hX _ _ q)
  obtain ⟨rfl, h⟩ := q
  refine am_Wrun 1 (ps := []) (pc' := 6) (lv' := [(0, .inr (.inl (some 0))), (1, .inl (a0)), (2, .inl (a1))]) (st' := [.inl (a1)]) (M' := M1) rfl trivial ?_
  refine am_WcallS (y := 78) (n := 1) (f := 9) (co := 0) (as := [.inl (a1)]) (st' := []) rfl rfl rfl rfl rfl rfl rfl rfl rfl (Nat.zero_le _) rfl (am_CC_le (Nat.le_of_ble_eq_true rfl) (tm_X5_isValue h)) (fun r M3 q => ?_) (fun _ _ q => q.elim)
  obtain ⟨x2, rfl, h⟩ := q
  obtain ⟨b0, ht, hf⟩ := h
  refine am_Wbr (P := [am_rg x2]) (c := ¬ x2 = 0) (t := 22) (f := 12) (st' := []) rfl rfl ⟨b0, trivial⟩ rfl (fun q => ?_) (fun q => ?_)
  · have h := ht q
    refine am_Wrun 4 (ps := []) (pc' := 30) (lv' := [(0, .inr (.inl (some 0))), (1, .inl (a0)), (2, .inl (a1))]) (st' := [.inr (.inl (some 1)), .inr (.inl (some 14))]) (M' := M3) rfl trivial ?_
    refine am_WcallV (y := 1) (n := 2) (a := 14) (f := 33) (as := [.inr (.inl (some 1))]) (st' := []) rfl rfl rfl rfl rfl rfl rfl rfl rfl rfl (Nat.zero_le _) rfl (am_CC_le (Nat.le_of_ble_eq_true rfl) (tm_X0_remember h)) (fun r M4 q => ?_) (fun _ _ q => q.elim)
    obtain ⟨rfl, h⟩ := q
    obtain ⟨c0_0, c1_0, h⟩ := h
    refine am_Wrun 13 (ps := [0 ≤ (a0 : Int) ∧ (a0 : Int) < 60, 0 ≤ (a0 : Int) ∧ (a0 : Int) < 60]) (pc' := 54) (lv' := [(3, .inl (M4 3 a0)), (0, .inr (.inl (some 0))), (1, .inl (a0)), (2, .inl (a1))]) (st' := [.inr (.inl (some 0))]) (M' := (am_up M4 3 a0 a1)) rfl ⟨c0_0, c1_0, trivial⟩ ?_
    refine am_WcallV (y := 82) (n := 1) (a := 0) (f := 57) (as := []) (st' := []) rfl rfl rfl rfl rfl rfl rfl rfl rfl rfl (Nat.zero_le _) rfl (am_CC_le (Nat.le_of_ble_eq_true rfl) (tm_X5_pointsChanged h)) (fun r M5 q => ?_) (fun _ _ q => q.elim)
    obtain ⟨rfl, h⟩ := q
    refine am_Wrun 1 (ps := []) (pc' := 58) (lv' := [(3, .inl (M4 3 a0)), (0, .inr (.inl (some 0))), (1, .inl (a0)), (2, .inl (a1))]) (st' := [.inl (M4 3 a0)]) (M' := M5) rfl trivial ?_
    exact am_Wreti rfl rfl h
  · have h := hf q
    exact am_Wthr (is := 92) (ic := 63) (E := 0) rfl (Nat.le_of_ble_eq_true rfl) rfl rfl rfl rfl (Or.inl ⟨rfl, rfl, rfl⟩) (hX _ _ h)
abbrev dt_L_correct : am_D := (tk_L_correct, 9, 5, some .int, tb_hn 200)
def wp_L_correct (a1 : Int) (a2 : Int) (M : am_M) (Q : Int → am_M → Prop) : Prop := wp_X5_correct a1 a2 M (fun x1 M2 => (am_rg x1) ∧ (Q 0 (am_up M2 80 0 x1))) (fun E M3 => (E = 2 ∧ Q 1 M3) ∨ (E = 0 ∧ Q 2 M3))
set_option maxRecDepth 20000 in
theorem tm_L_correct {a1 a2 : Int} {M : am_M} {Q : Int → am_M → Prop} (h : wp_L_correct a1 a2 M Q) : am_CC 8 200 [.inr (.inl (some 0)), .inl (a1), .inl (a2), .inr (.inl (some 80))] M (am_QI Q) (fun _ _ => False) := by
  refine ⟨Nat.le_of_ble_eq_true rfl, ?_⟩
  show am_W (am_CC 7) dt_L_correct 7 1 none (am_QI Q) (am_qx 200 (fun _ _ => False)) (0, 0, [(0, .inr (.inl (some 0))), (1, .inl (a1)), (2, .inl (a2)), (3, .inr (.inl (some 80)))], [], M)
  refine am_Wrun 5 (ps := []) (pc' := 5) (lv' := [(0, .inr (.inl (some 0))), (1, .inl (a1)), (2, .inl (a2)), (3, .inr (.inl (some 80)))]) (st' := [.inl (a2), .inl (a1), .inr (.inl (some 0)), .inl (0), .inr (.inl (some 80))]) (M' := M) rfl trivial ?_
  refine am_WcallV (y := 85) (n := 3) (a := 0) (f := 8) (as := [.inl (a1), .inl (a2)]) (st' := [.inl (0), .inr (.inl (some 80))]) rfl rfl rfl rfl rfl rfl rfl rfl rfl rfl (Nat.zero_le _) rfl (am_CC_le (Nat.le_of_ble_eq_true rfl) (tm_X5_correct h)) (fun r M2 q => ?_) (fun E M3 q => ?_)
  · obtain ⟨x1, rfl, h⟩ := q
    obtain ⟨c0_0, h⟩ := h
    refine am_Wrun 4 (ps := [am_rg x1, 0 ≤ (0 : Int) ∧ (0 : Int) < 1]) (pc' := 22) (lv' := [(0, .inr (.inl (some 0))), (1, .inl (a1)), (2, .inl (a2)), (3, .inr (.inl (some 80)))]) (st' := [.inl (0)]) (M' := (am_up M2 80 0 x1)) rfl ⟨c0_0, ⟨by decide, by decide⟩, trivial⟩ ?_
    exact am_Wreti rfl rfl h
  · rcases q with ⟨rfl, h⟩ | ⟨rfl, h⟩
    · show 0 + 1 ≤ 1 ∧ am_W (am_CC 7) dt_L_correct 7 1 none (am_QI Q) _ (0 + 1, 15, [(0, .inr (.inl (some 0))), (1, .inl (a1)), (2, .inl (a2)), (3, .inr (.inl (some 80)))], [], M3)
      refine ⟨Nat.le_refl _, ?_⟩
      refine am_Wrun 1 (ps := []) (pc' := 16) (lv' := [(0, .inr (.inl (some 0))), (1, .inl (a1)), (2, .inl (a2)), (3, .inr (.inl (some 80)))]) (st' := [.inl (1)]) (M' := M3) rfl trivial ?_
      exact am_Wreti rfl rfl h
    · show 0 + 1 ≤ 1 ∧ am_W (am_CC 7) dt_L_correct 7 1 none (am_QI Q) _ (0 + 1, 19, [(0, .inr (.inl (some 0))), (1, .inl (a1)), (2, .inl (a2)), (3, .inr (.inl (some 80)))], [], M3)
      refine ⟨Nat.le_refl _, ?_⟩
      refine am_Wrun 1 (ps := []) (pc' := 20) (lv' := [(0, .inr (.inl (some 0))), (1, .inl (a1)), (2, .inl (a2)), (3, .inr (.inl (some 80)))]) (st' := [.inl (2)]) (M' := M3) rfl trivial ?_
      exact am_Wreti rfl rfl h
abbrev dt_X6_isPoint : am_D := (tk_X6_isPoint, 6, 2, some .boolean, tb_hn 119)
def wp_X6_isPoint (a0 : Int) (M : am_M) (Q : Int → am_M → Prop) : Prop := wp_X6_in a0 0 ((M 70 0) - 1) M (fun x1 M2 => (x1 = 0 ∨ x1 = 1) ∧ Q x1 M2)
set_option maxRecDepth 20000 in
theorem tm_X6_isPoint {a0 : Int} {M : am_M} {Q : Int → am_M → Prop} (h : wp_X6_isPoint a0 M Q) : am_CC 2 119 [.inr (.inl (some 69)), .inl (a0)] M (am_QI Q) (fun _ _ => False) := by
  refine ⟨Nat.le_of_ble_eq_true rfl, ?_⟩
  show am_W (am_CC 1) dt_X6_isPoint 1 0 none (am_QI Q) (am_qx 119 (fun _ _ => False)) (0, 0, [(0, .inr (.inl (some 69))), (1, .inl (a0))], [], M)
  refine am_Wrun 8 (ps := [0 ≤ (0 : Int) ∧ (0 : Int) < 203]) (pc' := 10) (lv' := [(0, .inr (.inl (some 69))), (1, .inl (a0))]) (st' := [.inl ((M 70 0) - 1), .inl (0), .inl (a0)]) (M' := M) rfl ⟨⟨by decide, by decide⟩, trivial⟩ ?_
  refine am_WcallS (y := 112) (n := 3) (f := 13) (co := 0) (as := [.inl (a0), .inl (0), .inl ((M 70 0) - 1)]) (st' := []) rfl rfl rfl rfl rfl rfl rfl rfl rfl (Nat.zero_le _) rfl (am_CC_le (Nat.le_of_ble_eq_true rfl) (tm_X6_in h)) (fun r M2 q => ?_) (fun _ _ q => q.elim)
  obtain ⟨x1, rfl, h⟩ := q
  exact am_Wretz rfl rfl h.1 h.2
abbrev dt_X6_value : am_D := (tk_X6_value, 6, 2, some .int, tb_hn 120)
def wp_X6_value (a0 : Int) (M : am_M) (Q : Int → am_M → Prop) : Prop := (0 ≤ (67 + a0 : Int) ∧ (67 + a0 : Int) < 203) ∧ (Q (M 70 (67 + a0)) M)
set_option maxRecDepth 20000 in
theorem tm_X6_value {a0 : Int} {M : am_M} {Q : Int → am_M → Prop} (h : wp_X6_value a0 M Q) : am_CC 1 120 [.inr (.inl (some 69)), .inl (a0)] M (am_QI Q) (fun _ _ => False) := by
  refine ⟨Nat.le_of_ble_eq_true rfl, ?_⟩
  show am_W (am_CC 0) dt_X6_value 0 0 none (am_QI Q) (am_qx 120 (fun _ _ => False)) (0, 0, [(0, .inr (.inl (some 69))), (1, .inl (a0))], [], M)
  obtain ⟨c1_0, h⟩ := h
  refine am_Wrun 6 (ps := [-128 ≤ (67 : Int) ∧ (67 : Int) ≤ 127, 0 ≤ (67 + a0 : Int) ∧ (67 + a0 : Int) < 203]) (pc' := 9) (lv' := [(0, .inr (.inl (some 69))), (1, .inl (a0))]) (st' := [.inl (M 70 (67 + a0))]) (M' := M) rfl ⟨⟨by decide, by decide⟩, c1_0, trivial⟩ ?_
  exact am_Wreti rfl rfl h
abbrev dt_X6_correct : am_D := (tk_X6_correct, 6, 4, some .int, tb_hn 118)
def wp_X6_correct (a0 : Int) (a1 : Int) (M : am_M) (Q : Int → am_M → Prop) : Prop := wp_X6_isPoint a0 (am_up M 69 5 0) (fun x1 M2 => (am_rg x1) ∧ (¬ x1 = 0 → wp_X6_in a1 (-999) 999 M2 (fun x3 M4 => (am_rg x3) ∧ (¬ x3 = 0 → wp_X6_save M4 (fun M5 => wp_X6_value a0 M5 (fun x6 M7 => (0 ≤ (67 + a0 : Int) ∧ (67 + a0 : Int) < 203) ∧ (Q x6 (am_up M7 70 (67 + a0) a1))))) ∧ (¬ (¬ x3 = 0) → wp_X6_fails 2 M4 (fun x8 M9 => Q x8 M9)))) ∧ (¬ (¬ x1 = 0) → wp_X6_fails 1 M2 (fun x10 M11 => Q x10 M11)))
set_option maxRecDepth 20000 in
theorem tm_X6_correct {a0 a1 : Int} {M : am_M} {Q : Int → am_M → Prop} (h : wp_X6_correct a0 a1 M Q) : am_CC 3 118 [.inr (.inl (some 69)), .inl (a0), .inl (a1)] M (am_QI Q) (fun _ _ => False) := by
  refine ⟨Nat.le_of_ble_eq_true rfl, ?_⟩
  show am_W (am_CC 2) dt_X6_correct 2 0 none (am_QI Q) (am_qx 118 (fun _ _ => False)) (0, 0, [(0, .inr (.inl (some 69))), (1, .inl (a0)), (2, .inl (a1))], [], M)
  refine am_Wrun 5 (ps := []) (pc' := 7) (lv' := [(0, .inr (.inl (some 69))), (1, .inl (a0)), (2, .inl (a1))]) (st' := [.inl (a0), .inr (.inl (some 69))]) (M' := (am_up M 69 5 0)) rfl trivial ?_
  refine am_WcallV (y := 119) (n := 2) (a := 69) (f := 10) (as := [.inl (a0)]) (st' := []) rfl rfl rfl rfl rfl rfl rfl rfl rfl rfl (Nat.zero_le _) rfl (am_CC_le (Nat.le_of_ble_eq_true rfl) (tm_X6_isPoint h)) (fun r M2 q => ?_) (fun _ _ q => q.elim)
  obtain ⟨x1, rfl, h⟩ := q
  obtain ⟨b0, ht, hf⟩ := h
  refine am_Wbr (P := [am_rg x1]) (c := ¬ x1 = 0) (t := 19) (f := 13) (st' := []) rfl rfl ⟨b0, trivial⟩ rfl (fun q => ?_) (fun q => ?_)
  · have h := ht q
    refine am_Wrun 3 (ps := [-32768 ≤ ((-999) : Int) ∧ ((-999) : Int) ≤ 32767, -32768 ≤ (999 : Int) ∧ (999 : Int) ≤ 32767]) (pc' := 26) (lv' := [(0, .inr (.inl (some 69))), (1, .inl (a0)), (2, .inl (a1))]) (st' := [.inl (999), .inl ((-999)), .inl (a1)]) (M' := M2) rfl ⟨⟨by decide, by decide⟩, ⟨by decide, by decide⟩, trivial⟩ ?_
    refine am_WcallS (y := 112) (n := 3) (f := 29) (co := 0) (as := [.inl (a1), .inl ((-999)), .inl (999)]) (st' := []) rfl rfl rfl rfl rfl rfl rfl rfl rfl (Nat.zero_le _) rfl (am_CC_le (Nat.le_of_ble_eq_true rfl) (tm_X6_in h)) (fun r M4 q => ?_) (fun _ _ q => q.elim)
    obtain ⟨x3, rfl, h⟩ := q
    obtain ⟨b0, ht, hf⟩ := h
    refine am_Wbr (P := [am_rg x3]) (c := ¬ x3 = 0) (t := 38) (f := 32) (st' := []) rfl rfl ⟨b0, trivial⟩ rfl (fun q => ?_) (fun q => ?_)
    · have h := ht q
      refine am_Wrun 1 (ps := []) (pc' := 39) (lv' := [(0, .inr (.inl (some 69))), (1, .inl (a0)), (2, .inl (a1))]) (st' := [.inr (.inl (some 69))]) (M' := M4) rfl trivial ?_
      refine am_WcallV (y := 116) (n := 1) (a := 69) (f := 42) (as := []) (st' := []) rfl rfl rfl rfl rfl rfl rfl rfl rfl rfl (Nat.zero_le _) rfl (am_CC_le (Nat.le_of_ble_eq_true rfl) (tm_X6_save h)) (fun r M5 q => ?_) (fun _ _ q => q.elim)
      obtain ⟨rfl, h⟩ := q
      refine am_Wrun 2 (ps := []) (pc' := 44) (lv' := [(0, .inr (.inl (some 69))), (1, .inl (a0)), (2, .inl (a1))]) (st' := [.inl (a0), .inr (.inl (some 69))]) (M' := M5) rfl trivial ?_
      refine am_WcallV (y := 120) (n := 2) (a := 69) (f := 47) (as := [.inl (a0)]) (st' := []) rfl rfl rfl rfl rfl rfl rfl rfl rfl rfl (Nat.zero_le _) rfl (am_CC_le (Nat.le_of_ble_eq_true rfl) (tm_X6_value h)) (fun r M7 q => ?_) (fun _ _ q => q.elim)
      obtain ⟨x6, rfl, h⟩ := q
      obtain ⟨c1_0, h⟩ := h
      refine am_Wrun 9 (ps := [-128 ≤ (67 : Int) ∧ (67 : Int) ≤ 127, 0 ≤ (67 + a0 : Int) ∧ (67 + a0 : Int) < 203]) (pc' := 59) (lv' := [(3, .inl (x6)), (0, .inr (.inl (some 69))), (1, .inl (a0)), (2, .inl (a1))]) (st' := [.inl (x6)]) (M' := (am_up M7 70 (67 + a0) a1)) rfl ⟨⟨by decide, by decide⟩, c1_0, trivial⟩ ?_
      exact am_Wreti rfl rfl h
    · have h := hf q
      refine am_Wrun 2 (ps := []) (pc' := 34) (lv' := [(0, .inr (.inl (some 69))), (1, .inl (a0)), (2, .inl (a1))]) (st' := [.inl (2), .inr (.inl (some 69))]) (M' := M4) rfl trivial ?_
      refine am_WcallV (y := 113) (n := 2) (a := 69) (f := 37) (as := [.inl (2)]) (st' := []) rfl rfl rfl rfl rfl rfl rfl rfl rfl rfl (Nat.zero_le _) rfl (am_CC_le (Nat.le_of_ble_eq_true rfl) (tm_X6_fails h)) (fun r M9 q => ?_) (fun _ _ q => q.elim)
      obtain ⟨x8, rfl, h⟩ := q
      exact am_Wreti rfl rfl h
  · have h := hf q
    refine am_Wrun 2 (ps := []) (pc' := 15) (lv' := [(0, .inr (.inl (some 69))), (1, .inl (a0)), (2, .inl (a1))]) (st' := [.inl (1), .inr (.inl (some 69))]) (M' := M2) rfl trivial ?_
    refine am_WcallV (y := 113) (n := 2) (a := 69) (f := 18) (as := [.inl (1)]) (st' := []) rfl rfl rfl rfl rfl rfl rfl rfl rfl rfl (Nat.zero_le _) rfl (am_CC_le (Nat.le_of_ble_eq_true rfl) (tm_X6_fails h)) (fun r M11 q => ?_) (fun _ _ q => q.elim)
    obtain ⟨x10, rfl, h⟩ := q
    exact am_Wreti rfl rfl h
abbrev dt_X2_isKept : am_D := (tk_X2_isKept, 2, 2, some .boolean, tb_hn 8)
def wp_X2_isKept (a0 : Int) (M : am_M) (Q : Int → am_M → Prop) : Prop := wp_X2_hasPoint a0 M (fun x1 M2 => (am_rg x1) ∧ (x1 = 0 → Q 0 M2) ∧ (¬ x1 = 0 → (0 ≤ (a0 : Int) ∧ (a0 : Int) < 60) ∧ ((am_rg (M2 4 a0)) ∧ (¬ (M2 4 a0) = 1 → Q 0 M2) ∧ (¬ (¬ (M2 4 a0) = 1) → Q 1 M2))))
set_option maxRecDepth 20000 in
theorem tm_X2_isKept {a0 : Int} {M : am_M} {Q : Int → am_M → Prop} (h : wp_X2_isKept a0 M Q) : am_CC 2 8 [.inr (.inl (some 1)), .inl (a0)] M (am_QI Q) (fun _ _ => False) := by
  refine ⟨Nat.le_of_ble_eq_true rfl, ?_⟩
  show am_W (am_CC 1) dt_X2_isKept 1 0 none (am_QI Q) (am_qx 8 (fun _ _ => False)) (0, 0, [(0, .inr (.inl (some 1))), (1, .inl (a0))], [], M)
  refine am_Wrun 2 (ps := []) (pc' := 2) (lv' := [(0, .inr (.inl (some 1))), (1, .inl (a0))]) (st' := [.inl (a0), .inr (.inl (some 1))]) (M' := M) rfl trivial ?_
  refine am_WcallV (y := 9) (n := 2) (a := 1) (f := 5) (as := [.inl (a0)]) (st' := []) rfl rfl rfl rfl rfl rfl rfl rfl rfl rfl (Nat.zero_le _) rfl (am_CC_le (Nat.le_of_ble_eq_true rfl) (tm_X2_hasPoint h)) (fun r M2 q => ?_) (fun _ _ q => q.elim)
  obtain ⟨x1, rfl, h⟩ := q
  obtain ⟨b0, ht, hf⟩ := h
  refine am_Wbr (P := [am_rg x1]) (c := x1 = 0) (t := 22) (f := 8) (st' := []) rfl rfl ⟨b0, trivial⟩ rfl (fun q => ?_) (fun q => ?_)
  · have h := ht q
    refine am_Wrun 1 (ps := []) (pc' := 23) (lv' := [(0, .inr (.inl (some 1))), (1, .inl (a0))]) (st' := [.inl (0)]) (M' := M2) rfl trivial ?_
    exact am_Wretz rfl rfl (Or.inl rfl) h
  · have h := hf q
    obtain ⟨c0_0, h⟩ := h
    refine am_Wrun 5 (ps := [0 ≤ (a0 : Int) ∧ (a0 : Int) < 60]) (pc' := 15) (lv' := [(0, .inr (.inl (some 1))), (1, .inl (a0))]) (st' := [.inl (1), .inl (M2 4 a0)]) (M' := M2) rfl ⟨c0_0, trivial⟩ ?_
    obtain ⟨b0, ht, hf⟩ := h
    refine am_Wbr (P := [am_rg (M2 4 a0), am_rg 1]) (c := ¬ (M2 4 a0) = 1) (t := 22) (f := 18) (st' := []) rfl rfl ⟨b0, (am_rgd rfl), trivial⟩ rfl (fun q => ?_) (fun q => ?_)
    · have h := ht q
      refine am_Wrun 1 (ps := []) (pc' := 23) (lv' := [(0, .inr (.inl (some 1))), (1, .inl (a0))]) (st' := [.inl (0)]) (M' := M2) rfl trivial ?_
      exact am_Wretz rfl rfl (Or.inl rfl) h
    · have h := hf q
      refine am_Wrun 2 (ps := []) (pc' := 23) (lv' := [(0, .inr (.inl (some 1))), (1, .inl (a0))]) (st' := [.inl (1)]) (M' := M2) rfl trivial ?_
      exact am_Wretz rfl rfl (Or.inr rfl) h
abbrev dt_X2_keptBelow : am_D := (tk_X2_keptBelow, 2, 3, some .int, tb_hn 11)
def wl_X2_keptBelow_11 (Q : Int → am_M → Prop) : Nat → Int → am_M → Prop
  | 0, _, _ => False
  | n + 1, v2, M => (am_rg v2) ∧ (v2 < 0 → Q (-1000000) M) ∧ (¬ v2 < 0 → (0 ≤ (v2 : Int) ∧ (v2 : Int) < 60) ∧ ((am_rg (M 4 v2)) ∧ (¬ (M 4 v2) = 1 → wl_X2_keptBelow_11 Q n (v2 + (-1)) M) ∧ (¬ (¬ (M 4 v2) = 1) → Q v2 M)))
def wp_X2_keptBelow (a0 : Int) (M : am_M) (Q : Int → am_M → Prop) : Prop := (am_rg a0) ∧ (am_rg (M 1 7)) ∧ (∃ e11, wl_X2_keptBelow_11 Q e11 ((if (M 1 7) < a0 then (M 1 7) else a0) - 1) M)
set_option maxRecDepth 20000 in
theorem tw_X2_keptBelow_11 {Q : Int → am_M → Prop} {QX : am_X} : ∀ (n : Nat) (v2 : Int) (M : am_M), wl_X2_keptBelow_11 Q n v2 M → am_W (am_CC 0) dt_X2_keptBelow 0 0 none (am_QI Q) QX (0, 11, [(0, .inr (.inl (some 1))), (2, .inl (v2))], [], M)
  | 0, _, _, h => h.elim
  | n + 1, v2, M, h => by
    refine am_Wrun 1 (ps := []) (pc' := 12) (lv' := [(0, .inr (.inl (some 1))), (2, .inl (v2))]) (st' := [.inl (v2)]) (M' := M) rfl trivial ?_
    obtain ⟨b0, ht, hf⟩ := h
    refine am_Wbr (P := [am_rg v2]) (c := v2 < 0) (t := 33) (f := 15) (st' := []) rfl rfl ⟨b0, trivial⟩ rfl (fun q => ?_) (fun q => ?_)
    · have h := ht q
      refine am_Wrun 1 (ps := []) (pc' := 35) (lv' := [(0, .inr (.inl (some 1))), (2, .inl (v2))]) (st' := [.inl ((-1000000))]) (M' := M) rfl trivial ?_
      exact am_Wreti rfl rfl h
    · have h := hf q
      obtain ⟨c0_0, h⟩ := h
      refine am_Wrun 5 (ps := [0 ≤ (v2 : Int) ∧ (v2 : Int) < 60]) (pc' := 22) (lv' := [(0, .inr (.inl (some 1))), (2, .inl (v2))]) (st' := [.inl (1), .inl (M 4 v2)]) (M' := M) rfl ⟨c0_0, trivial⟩ ?_
      obtain ⟨b0, ht, hf⟩ := h
      refine am_Wbr (P := [am_rg (M 4 v2), am_rg 1]) (c := ¬ (M 4 v2) = 1) (t := 27) (f := 25) (st' := []) rfl rfl ⟨b0, (am_rgd rfl), trivial⟩ rfl (fun q => ?_) (fun q => ?_)
      · have h := ht q
        refine am_Wrun 2 (ps := []) (pc' := 11) (lv' := [(2, .inl (v2 + (-1))), (0, .inr (.inl (some 1)))]) (st' := []) (M' := M) rfl trivial ?_
        refine am_W_sub [1, 0] rfl ?_
        exact tw_X2_keptBelow_11 n (v2 + (-1)) M h
      · have h := hf q
        refine am_Wrun 1 (ps := []) (pc' := 26) (lv' := [(0, .inr (.inl (some 1))), (2, .inl (v2))]) (st' := [.inl (v2)]) (M' := M) rfl trivial ?_
        exact am_Wreti rfl rfl h
set_option maxRecDepth 20000 in
theorem tm_X2_keptBelow {a0 : Int} {M : am_M} {Q : Int → am_M → Prop} (h : wp_X2_keptBelow a0 M Q) : am_CC 1 11 [.inr (.inl (some 1)), .inl (a0)] M (am_QI Q) (fun _ _ => False) := by
  refine ⟨Nat.le_of_ble_eq_true rfl, ?_⟩
  show am_W (am_CC 0) dt_X2_keptBelow 0 0 none (am_QI Q) (am_qx 11 (fun _ _ => False)) (0, 0, [(0, .inr (.inl (some 1))), (1, .inl (a0))], [], M)
  obtain ⟨c0_0, c0_1, h⟩ := h
  refine am_Wrun 7 (ps := [am_rg a0 ∧ am_rg (M 1 7) ∧ am_cs [] ≤ 8]) (pc' := 11) (lv' := [(2, .inl ((if (M 1 7) < a0 then (M 1 7) else a0) - 1)), (0, .inr (.inl (some 1))), (1, .inl (a0))]) (st' := []) (M' := M) rfl ⟨⟨c0_0, c0_1, (by decide)⟩, trivial⟩ ?_
  refine am_W_sub [1, 0] rfl ?_
  obtain ⟨n11, h⟩ := h
  exact tw_X2_keptBelow_11 n11 ((if (M 1 7) < a0 then (M 1 7) else a0) - 1) M h
abbrev dt_X2_sameStretch : am_D := (tk_X2_sameStretch, 2, 3, some .boolean, tb_hn 12)
def wp_X2_sameStretch (a0 : Int) (a1 : Int) (M : am_M) (Q : Int → am_M → Prop) : Prop := (am_rg a0) ∧ (a0 < 0 → Q 0 M) ∧ (¬ a0 < 0 → (am_rg a0) ∧ (am_rg (M 1 7)) ∧ ((M 1 7) ≤ a0 → Q 0 M) ∧ (¬ (M 1 7) ≤ a0 → (am_rg a1) ∧ (a1 < 0 → Q 0 M) ∧ (¬ a1 < 0 → (am_rg a1) ∧ (am_rg (M 1 7)) ∧ ((M 1 7) ≤ a1 → Q 0 M) ∧ (¬ (M 1 7) ≤ a1 → (0 ≤ (a0 : Int) ∧ (a0 : Int) < 60) ∧ (0 ≤ (a1 : Int) ∧ (a1 : Int) < 60) ∧ ((am_rg (M 5 a0)) ∧ (am_rg (M 5 a1)) ∧ (¬ (M 5 a0) = (M 5 a1) → Q 0 M) ∧ (¬ (¬ (M 5 a0) = (M 5 a1)) → Q 1 M))))))
set_option maxRecDepth 20000 in
theorem tm_X2_sameStretch {a0 a1 : Int} {M : am_M} {Q : Int → am_M → Prop} (h : wp_X2_sameStretch a0 a1 M Q) : am_CC 1 12 [.inr (.inl (some 1)), .inl (a0), .inl (a1)] M (am_QI Q) (fun _ _ => False) := by
  refine ⟨Nat.le_of_ble_eq_true rfl, ?_⟩
  show am_W (am_CC 0) dt_X2_sameStretch 0 0 none (am_QI Q) (am_qx 12 (fun _ _ => False)) (0, 0, [(0, .inr (.inl (some 1))), (1, .inl (a0)), (2, .inl (a1))], [], M)
  refine am_Wrun 1 (ps := []) (pc' := 1) (lv' := [(0, .inr (.inl (some 1))), (1, .inl (a0)), (2, .inl (a1))]) (st' := [.inl (a0)]) (M' := M) rfl trivial ?_
  obtain ⟨b0, ht, hf⟩ := h
  refine am_Wbr (P := [am_rg a0]) (c := a0 < 0) (t := 43) (f := 4) (st' := []) rfl rfl ⟨b0, trivial⟩ rfl (fun q => ?_) (fun q => ?_)
  · have h := ht q
    refine am_Wrun 1 (ps := []) (pc' := 44) (lv' := [(0, .inr (.inl (some 1))), (1, .inl (a0)), (2, .inl (a1))]) (st' := [.inl (0)]) (M' := M) rfl trivial ?_
    exact am_Wretz rfl rfl (Or.inl rfl) h
  · have h := hf q
    refine am_Wrun 3 (ps := []) (pc' := 9) (lv' := [(0, .inr (.inl (some 1))), (1, .inl (a0)), (2, .inl (a1))]) (st' := [.inl (M 1 7), .inl (a0)]) (M' := M) rfl trivial ?_
    obtain ⟨b0, b1, ht, hf⟩ := h
    refine am_Wbr (P := [am_rg a0, am_rg (M 1 7)]) (c := (M 1 7) ≤ a0) (t := 43) (f := 12) (st' := []) rfl rfl ⟨b0, b1, trivial⟩ rfl (fun q => ?_) (fun q => ?_)
    · have h := ht q
      refine am_Wrun 1 (ps := []) (pc' := 44) (lv' := [(0, .inr (.inl (some 1))), (1, .inl (a0)), (2, .inl (a1))]) (st' := [.inl (0)]) (M' := M) rfl trivial ?_
      exact am_Wretz rfl rfl (Or.inl rfl) h
    · have h := hf q
      refine am_Wrun 1 (ps := []) (pc' := 13) (lv' := [(0, .inr (.inl (some 1))), (1, .inl (a0)), (2, .inl (a1))]) (st' := [.inl (a1)]) (M' := M) rfl trivial ?_
      obtain ⟨b0, ht, hf⟩ := h
      refine am_Wbr (P := [am_rg a1]) (c := a1 < 0) (t := 43) (f := 16) (st' := []) rfl rfl ⟨b0, trivial⟩ rfl (fun q => ?_) (fun q => ?_)
      · have h := ht q
        refine am_Wrun 1 (ps := []) (pc' := 44) (lv' := [(0, .inr (.inl (some 1))), (1, .inl (a0)), (2, .inl (a1))]) (st' := [.inl (0)]) (M' := M) rfl trivial ?_
        exact am_Wretz rfl rfl (Or.inl rfl) h
      · have h := hf q
        refine am_Wrun 3 (ps := []) (pc' := 21) (lv' := [(0, .inr (.inl (some 1))), (1, .inl (a0)), (2, .inl (a1))]) (st' := [.inl (M 1 7), .inl (a1)]) (M' := M) rfl trivial ?_
        obtain ⟨b0, b1, ht, hf⟩ := h
        refine am_Wbr (P := [am_rg a1, am_rg (M 1 7)]) (c := (M 1 7) ≤ a1) (t := 43) (f := 24) (st' := []) rfl rfl ⟨b0, b1, trivial⟩ rfl (fun q => ?_) (fun q => ?_)
        · have h := ht q
          refine am_Wrun 1 (ps := []) (pc' := 44) (lv' := [(0, .inr (.inl (some 1))), (1, .inl (a0)), (2, .inl (a1))]) (st' := [.inl (0)]) (M' := M) rfl trivial ?_
          exact am_Wretz rfl rfl (Or.inl rfl) h
        · have h := hf q
          obtain ⟨c0_0, c1_0, h⟩ := h
          refine am_Wrun 8 (ps := [0 ≤ (a0 : Int) ∧ (a0 : Int) < 60, 0 ≤ (a1 : Int) ∧ (a1 : Int) < 60]) (pc' := 36) (lv' := [(0, .inr (.inl (some 1))), (1, .inl (a0)), (2, .inl (a1))]) (st' := [.inl (M 5 a1), .inl (M 5 a0)]) (M' := M) rfl ⟨c0_0, c1_0, trivial⟩ ?_
          obtain ⟨b0, b1, ht, hf⟩ := h
          refine am_Wbr (P := [am_rg (M 5 a0), am_rg (M 5 a1)]) (c := ¬ (M 5 a0) = (M 5 a1)) (t := 43) (f := 39) (st' := []) rfl rfl ⟨b0, b1, trivial⟩ rfl (fun q => ?_) (fun q => ?_)
          · have h := ht q
            refine am_Wrun 1 (ps := []) (pc' := 44) (lv' := [(0, .inr (.inl (some 1))), (1, .inl (a0)), (2, .inl (a1))]) (st' := [.inl (0)]) (M' := M) rfl trivial ?_
            exact am_Wretz rfl rfl (Or.inl rfl) h
          · have h := hf q
            refine am_Wrun 2 (ps := []) (pc' := 44) (lv' := [(0, .inr (.inl (some 1))), (1, .inl (a0)), (2, .inl (a1))]) (st' := [.inl (1)]) (M' := M) rfl trivial ?_
            exact am_Wretz rfl rfl (Or.inr rfl) h
abbrev dt_X2_earlierKept : am_D := (tk_X2_earlierKept, 2, 3, some .int, tb_hn 10)
def wp_X2_earlierKept (a0 : Int) (M : am_M) (Q : Int → am_M → Prop) : Prop := wp_X2_keptBelow a0 M (fun x1 M2 => wp_X2_sameStretch x1 a0 M2 (fun x3 M4 => (am_rg x3) ∧ (x3 = 0 → Q (-1000000) M4) ∧ (¬ x3 = 0 → Q x1 M4)))
set_option maxRecDepth 20000 in
theorem tm_X2_earlierKept {a0 : Int} {M : am_M} {Q : Int → am_M → Prop} (h : wp_X2_earlierKept a0 M Q) : am_CC 2 10 [.inr (.inl (some 1)), .inl (a0)] M (am_QI Q) (fun _ _ => False) := by
  refine ⟨Nat.le_of_ble_eq_true rfl, ?_⟩
  show am_W (am_CC 1) dt_X2_earlierKept 1 0 none (am_QI Q) (am_qx 10 (fun _ _ => False)) (0, 0, [(0, .inr (.inl (some 1))), (1, .inl (a0))], [], M)
  refine am_Wrun 2 (ps := []) (pc' := 2) (lv' := [(0, .inr (.inl (some 1))), (1, .inl (a0))]) (st' := [.inl (a0), .inr (.inl (some 1))]) (M' := M) rfl trivial ?_
  refine am_WcallV (y := 11) (n := 2) (a := 1) (f := 5) (as := [.inl (a0)]) (st' := []) rfl rfl rfl rfl rfl rfl rfl rfl rfl rfl (Nat.zero_le _) rfl (am_CC_le (Nat.le_of_ble_eq_true rfl) (tm_X2_keptBelow h)) (fun r M2 q => ?_) (fun _ _ q => q.elim)
  obtain ⟨x1, rfl, h⟩ := q
  refine am_Wrun 4 (ps := []) (pc' := 9) (lv' := [(2, .inl (x1)), (0, .inr (.inl (some 1))), (1, .inl (a0))]) (st' := [.inl (a0), .inl (x1), .inr (.inl (some 1))]) (M' := M2) rfl trivial ?_
  refine am_WcallV (y := 12) (n := 3) (a := 1) (f := 12) (as := [.inl (x1), .inl (a0)]) (st' := []) rfl rfl rfl rfl rfl rfl rfl rfl rfl rfl (Nat.zero_le _) rfl (am_CC_le (Nat.le_of_ble_eq_true rfl) (tm_X2_sameStretch h)) (fun r M4 q => ?_) (fun _ _ q => q.elim)
  obtain ⟨x3, rfl, h⟩ := q
  obtain ⟨b0, ht, hf⟩ := h
  refine am_Wbr (P := [am_rg x3]) (c := x3 = 0) (t := 19) (f := 15) (st' := []) rfl rfl ⟨b0, trivial⟩ rfl (fun q => ?_) (fun q => ?_)
  · have h := ht q
    refine am_Wrun 1 (ps := []) (pc' := 21) (lv' := [(2, .inl (x1)), (0, .inr (.inl (some 1))), (1, .inl (a0))]) (st' := [.inl ((-1000000))]) (M' := M4) rfl trivial ?_
    exact am_Wreti rfl rfl h
  · have h := hf q
    refine am_Wrun 2 (ps := []) (pc' := 21) (lv' := [(2, .inl (x1)), (0, .inr (.inl (some 1))), (1, .inl (a0))]) (st' := [.inl (x1)]) (M' := M4) rfl trivial ?_
    exact am_Wreti rfl rfl h
abbrev dt_X2_keptFrom : am_D := (tk_X2_keptFrom, 2, 3, some .int, tb_hn 14)
def wl_X2_keptFrom_6 (Q : Int → am_M → Prop) : Nat → Int → am_M → Prop
  | 0, _, _ => False
  | n + 1, v2, M => (am_rg v2) ∧ (am_rg (M 1 7)) ∧ ((M 1 7) ≤ v2 → Q (-1000000) M) ∧ (¬ (M 1 7) ≤ v2 → (0 ≤ (v2 : Int) ∧ (v2 : Int) < 60) ∧ ((am_rg (M 4 v2)) ∧ (¬ (M 4 v2) = 1 → wl_X2_keptFrom_6 Q n (v2 + 1) M) ∧ (¬ (¬ (M 4 v2) = 1) → Q v2 M)))
def wp_X2_keptFrom (a0 : Int) (M : am_M) (Q : Int → am_M → Prop) : Prop := (am_rg a0) ∧ (∃ e6, wl_X2_keptFrom_6 Q e6 (if a0 < 0 then 0 else a0) M)
set_option maxRecDepth 20000 in
theorem tw_X2_keptFrom_6 {Q : Int → am_M → Prop} {QX : am_X} : ∀ (n : Nat) (v2 : Int) (M : am_M), wl_X2_keptFrom_6 Q n v2 M → am_W (am_CC 0) dt_X2_keptFrom 0 0 none (am_QI Q) QX (0, 6, [(0, .inr (.inl (some 1))), (2, .inl (v2))], [], M)
  | 0, _, _, h => h.elim
  | n + 1, v2, M, h => by
    refine am_Wrun 3 (ps := []) (pc' := 11) (lv' := [(0, .inr (.inl (some 1))), (2, .inl (v2))]) (st' := [.inl (M 1 7), .inl (v2)]) (M' := M) rfl trivial ?_
    obtain ⟨b0, b1, ht, hf⟩ := h
    refine am_Wbr (P := [am_rg v2, am_rg (M 1 7)]) (c := (M 1 7) ≤ v2) (t := 32) (f := 14) (st' := []) rfl rfl ⟨b0, b1, trivial⟩ rfl (fun q => ?_) (fun q => ?_)
    · have h := ht q
      refine am_Wrun 1 (ps := []) (pc' := 34) (lv' := [(0, .inr (.inl (some 1))), (2, .inl (v2))]) (st' := [.inl ((-1000000))]) (M' := M) rfl trivial ?_
      exact am_Wreti rfl rfl h
    · have h := hf q
      obtain ⟨c0_0, h⟩ := h
      refine am_Wrun 5 (ps := [0 ≤ (v2 : Int) ∧ (v2 : Int) < 60]) (pc' := 21) (lv' := [(0, .inr (.inl (some 1))), (2, .inl (v2))]) (st' := [.inl (1), .inl (M 4 v2)]) (M' := M) rfl ⟨c0_0, trivial⟩ ?_
      obtain ⟨b0, ht, hf⟩ := h
      refine am_Wbr (P := [am_rg (M 4 v2), am_rg 1]) (c := ¬ (M 4 v2) = 1) (t := 26) (f := 24) (st' := []) rfl rfl ⟨b0, (am_rgd rfl), trivial⟩ rfl (fun q => ?_) (fun q => ?_)
      · have h := ht q
        refine am_Wrun 2 (ps := []) (pc' := 6) (lv' := [(2, .inl (v2 + 1)), (0, .inr (.inl (some 1)))]) (st' := []) (M' := M) rfl trivial ?_
        refine am_W_sub [1, 0] rfl ?_
        exact tw_X2_keptFrom_6 n (v2 + 1) M h
      · have h := hf q
        refine am_Wrun 1 (ps := []) (pc' := 25) (lv' := [(0, .inr (.inl (some 1))), (2, .inl (v2))]) (st' := [.inl (v2)]) (M' := M) rfl trivial ?_
        exact am_Wreti rfl rfl h
set_option maxRecDepth 20000 in
theorem tm_X2_keptFrom {a0 : Int} {M : am_M} {Q : Int → am_M → Prop} (h : wp_X2_keptFrom a0 M Q) : am_CC 1 14 [.inr (.inl (some 1)), .inl (a0)] M (am_QI Q) (fun _ _ => False) := by
  refine ⟨Nat.le_of_ble_eq_true rfl, ?_⟩
  show am_W (am_CC 0) dt_X2_keptFrom 0 0 none (am_QI Q) (am_qx 14 (fun _ _ => False)) (0, 0, [(0, .inr (.inl (some 1))), (1, .inl (a0))], [], M)
  obtain ⟨c0_0, h⟩ := h
  refine am_Wrun 4 (ps := [am_rg a0 ∧ am_rg 0 ∧ am_cs [] ≤ 8]) (pc' := 6) (lv' := [(2, .inl (if a0 < 0 then 0 else a0)), (0, .inr (.inl (some 1))), (1, .inl (a0))]) (st' := []) (M' := M) rfl ⟨⟨c0_0, (am_rgd rfl), (by decide)⟩, trivial⟩ ?_
  refine am_W_sub [1, 0] rfl ?_
  obtain ⟨n6, h⟩ := h
  exact tw_X2_keptFrom_6 n6 (if a0 < 0 then 0 else a0) M h
abbrev dt_X2_laterKept : am_D := (tk_X2_laterKept, 2, 3, some .int, tb_hn 13)
def wp_X2_laterKept (a0 : Int) (M : am_M) (Q : Int → am_M → Prop) : Prop := wp_X2_keptFrom (a0 + 1) M (fun x1 M2 => wp_X2_sameStretch a0 x1 M2 (fun x3 M4 => (am_rg x3) ∧ (x3 = 0 → Q (-1000000) M4) ∧ (¬ x3 = 0 → Q x1 M4)))
set_option maxRecDepth 20000 in
theorem tm_X2_laterKept {a0 : Int} {M : am_M} {Q : Int → am_M → Prop} (h : wp_X2_laterKept a0 M Q) : am_CC 2 13 [.inr (.inl (some 1)), .inl (a0)] M (am_QI Q) (fun _ _ => False) := by
  refine ⟨Nat.le_of_ble_eq_true rfl, ?_⟩
  show am_W (am_CC 1) dt_X2_laterKept 1 0 none (am_QI Q) (am_qx 13 (fun _ _ => False)) (0, 0, [(0, .inr (.inl (some 1))), (1, .inl (a0))], [], M)
  refine am_Wrun 4 (ps := []) (pc' := 4) (lv' := [(0, .inr (.inl (some 1))), (1, .inl (a0))]) (st' := [.inl (a0 + 1), .inr (.inl (some 1))]) (M' := M) rfl trivial ?_
  refine am_WcallV (y := 14) (n := 2) (a := 1) (f := 7) (as := [.inl (a0 + 1)]) (st' := []) rfl rfl rfl rfl rfl rfl rfl rfl rfl rfl (Nat.zero_le _) rfl (am_CC_le (Nat.le_of_ble_eq_true rfl) (tm_X2_keptFrom h)) (fun r M2 q => ?_) (fun _ _ q => q.elim)
  obtain ⟨x1, rfl, h⟩ := q
  refine am_Wrun 4 (ps := []) (pc' := 11) (lv' := [(2, .inl (x1)), (0, .inr (.inl (some 1))), (1, .inl (a0))]) (st' := [.inl (x1), .inl (a0), .inr (.inl (some 1))]) (M' := M2) rfl trivial ?_
  refine am_WcallV (y := 12) (n := 3) (a := 1) (f := 14) (as := [.inl (a0), .inl (x1)]) (st' := []) rfl rfl rfl rfl rfl rfl rfl rfl rfl rfl (Nat.zero_le _) rfl (am_CC_le (Nat.le_of_ble_eq_true rfl) (tm_X2_sameStretch h)) (fun r M4 q => ?_) (fun _ _ q => q.elim)
  obtain ⟨x3, rfl, h⟩ := q
  obtain ⟨b0, ht, hf⟩ := h
  refine am_Wbr (P := [am_rg x3]) (c := x3 = 0) (t := 21) (f := 17) (st' := []) rfl rfl ⟨b0, trivial⟩ rfl (fun q => ?_) (fun q => ?_)
  · have h := ht q
    refine am_Wrun 1 (ps := []) (pc' := 23) (lv' := [(2, .inl (x1)), (0, .inr (.inl (some 1))), (1, .inl (a0))]) (st' := [.inl ((-1000000))]) (M' := M4) rfl trivial ?_
    exact am_Wreti rfl rfl h
  · have h := hf q
    refine am_Wrun 2 (ps := []) (pc' := 23) (lv' := [(2, .inl (x1)), (0, .inr (.inl (some 1))), (1, .inl (a0))]) (st' := [.inl (x1)]) (M' := M4) rfl trivial ?_
    exact am_Wreti rfl rfl h
abbrev dt_X2_isStep : am_D := (tk_X2_isStep, 2, 1, some .boolean, tb_hn 16)
def wp_X2_isStep (M : am_M) (Q : Int → am_M → Prop) : Prop := (am_rg (M 6 2)) ∧ (¬ (M 6 2) = 1 → Q 0 M) ∧ (¬ (¬ (M 6 2) = 1) → Q 1 M)
set_option maxRecDepth 20000 in
theorem tm_X2_isStep {M : am_M} {Q : Int → am_M → Prop} (h : wp_X2_isStep M Q) : am_CC 1 16 [.inr (.inl (some 1))] M (am_QI Q) (fun _ _ => False) := by
  refine ⟨Nat.le_of_ble_eq_true rfl, ?_⟩
  show am_W (am_CC 0) dt_X2_isStep 0 0 none (am_QI Q) (am_qx 16 (fun _ _ => False)) (0, 0, [(0, .inr (.inl (some 1)))], [], M)
  refine am_Wrun 5 (ps := [0 ≤ (2 : Int) ∧ (2 : Int) < 3]) (pc' := 7) (lv' := [(0, .inr (.inl (some 1)))]) (st' := [.inl (1), .inl (M 6 2)]) (M' := M) rfl ⟨⟨by decide, by decide⟩, trivial⟩ ?_
  obtain ⟨b0, ht, hf⟩ := h
  refine am_Wbr (P := [am_rg (M 6 2), am_rg 1]) (c := ¬ (M 6 2) = 1) (t := 14) (f := 10) (st' := []) rfl rfl ⟨b0, (am_rgd rfl), trivial⟩ rfl (fun q => ?_) (fun q => ?_)
  · have h := ht q
    refine am_Wrun 1 (ps := []) (pc' := 15) (lv' := [(0, .inr (.inl (some 1)))]) (st' := [.inl (0)]) (M' := M) rfl trivial ?_
    exact am_Wretz rfl rfl (Or.inl rfl) h
  · have h := hf q
    refine am_Wrun 2 (ps := []) (pc' := 15) (lv' := [(0, .inr (.inl (some 1)))]) (st' := [.inl (1)]) (M' := M) rfl trivial ?_
    exact am_Wretz rfl rfl (Or.inr rfl) h
abbrev dt_X1_findWorst : am_D := (tk_X1_findWorst, 1, 14, some .int, tb_hn 47)
def wj_X1_findWorst_152 (Q : Int → am_M → Prop) (k112 : Int → Int → Int → Int → Int → Int → Int → Int → am_M → Prop) (v2 : Int) (v6 : Int) (v7 : Int) (v8 : Int) (v9 : Int) (v10 : Int) (v11 : Int) (v12 : Int) (v13 : Int) (M : am_M) : Prop := (am_rg v13) ∧ (am_rg v11) ∧ (v13 ≤ v11 → k112 v2 v6 v7 v8 v9 v10 v11 (v12 + 1) M) ∧ (¬ v13 ≤ v11 → k112 v2 v6 v7 v8 v9 v12 v13 (v12 + 1) M)
def wl_X1_findWorst_112 (Q : Int → am_M → Prop) : Nat → Int → Int → Int → Int → Int → Int → Int → Int → am_M → Prop
  | 0, _, _, _, _, _, _, _, _, _ => False
  | n + 1, v2, v6, v7, v8, v9, v10, v11, v12, M => (am_rg v12) ∧ (am_rg v2) ∧ (v2 ≤ v12 → (am_rg v11) ∧ (Q v10 (am_up (am_up M 9 1 (if v11 < 0 then 0 else v11)) 9 2 v6))) ∧ (¬ v2 ≤ v12 → (0 ≤ (v12 : Int) ∧ (v12 : Int) < 60) ∧ (0 ≤ (v12 : Int) ∧ (v12 : Int) < 60) ∧ ((am_rg ((((M 3 v12) - v9) * v6) - (v7 * ((M 2 v12) - v8)))) ∧ (0 ≤ ((((M 3 v12) - v9) * v6) - (v7 * ((M 2 v12) - v8))) → wj_X1_findWorst_152 Q (wl_X1_findWorst_112 Q n) v2 v6 v7 v8 v9 v10 v11 v12 ((((M 3 v12) - v9) * v6) - (v7 * ((M 2 v12) - v8))) M) ∧ (¬ 0 ≤ ((((M 3 v12) - v9) * v6) - (v7 * ((M 2 v12) - v8))) → wj_X1_findWorst_152 Q (wl_X1_findWorst_112 Q n) v2 v6 v7 v8 v9 v10 v11 v12 (-((((M 3 v12) - v9) * v6) - (v7 * ((M 2 v12) - v8)))) M)))
def wj_X1_findWorst_87 (Q : Int → am_M → Prop) (v1 : Int) (v2 : Int) (v6 : Int) (s0 : Int) (M : am_M) : Prop := (0 ≤ (v1 : Int) ∧ (v1 : Int) < 60) ∧ (0 ≤ (v1 : Int) ∧ (v1 : Int) < 60) ∧ (∃ e112, wl_X1_findWorst_112 Q e112 v2 v6 s0 (M 2 v1) (M 3 v1) (-1000000) (-1) (v1 + 1) M)
def wj_X1_findWorst_67 (Q : Int → am_M → Prop) (v1 : Int) (v2 : Int) (v5 : Int) (s0 : Int) (M : am_M) : Prop := (am_rg v5) ∧ (v5 = 0 → (0 ≤ (v2 : Int) ∧ (v2 : Int) < 60) ∧ (0 ≤ (v1 : Int) ∧ (v1 : Int) < 60) ∧ (wj_X1_findWorst_87 Q v1 v2 s0 ((M 3 v2) - (M 3 v1)) M)) ∧ (¬ v5 = 0 → wj_X1_findWorst_87 Q v1 v2 s0 0 M)
def wp_X1_findWorst (a0 : Int) (a1 : Int) (M : am_M) (Q : Int → am_M → Prop) : Prop := wp_X2_sameStretch a0 a1 (am_up (am_up M 9 1 0) 9 2 1) (fun x1 M2 => (am_rg x1) ∧ (¬ x1 = 0 → wp_X2_isStep M2 (fun x3 M4 => (am_rg x3) ∧ (x3 = 0 → (0 ≤ (a1 : Int) ∧ (a1 : Int) < 60) ∧ (0 ≤ (a0 : Int) ∧ (a0 : Int) < 60) ∧ (wj_X1_findWorst_67 Q a0 a1 x3 ((M4 2 a1) - (M4 2 a0)) M4)) ∧ (¬ x3 = 0 → wj_X1_findWorst_67 Q a0 a1 x3 1 M4))) ∧ (¬ (¬ x1 = 0) → Q (-1000000) M2))
set_option maxRecDepth 20000 in
theorem tj_X1_findWorst_152 {Q : Int → am_M → Prop} {QX : am_X} {k112 : Int → Int → Int → Int → Int → Int → Int → Int → am_M → Prop} (hk112 : ∀ (v2 : Int) (v6 : Int) (v7 : Int) (v8 : Int) (v9 : Int) (v10 : Int) (v11 : Int) (v12 : Int) (M : am_M), k112 v2 v6 v7 v8 v9 v10 v11 v12 M → am_W (am_CC 1) dt_X1_findWorst 1 0 none (am_QI Q) QX (0, 112, [(0, .inr (.inl (some 9))), (2, .inl (v2)), (3, .inr (.inl (some 2))), (4, .inr (.inl (some 3))), (6, .inl (v6)), (7, .inl (v7)), (8, .inl (v8)), (9, .inl (v9)), (10, .inl (v10)), (11, .inl (v11)), (12, .inl (v12))], [], M)) (v2 : Int) (v6 : Int) (v7 : Int) (v8 : Int) (v9 : Int) (v10 : Int) (v11 : Int) (v12 : Int) (v13 : Int) (M : am_M) (h : wj_X1_findWorst_152 Q k112 v2 v6 v7 v8 v9 v10 v11 v12 v13 M) : am_W (am_CC 1) dt_X1_findWorst 1 0 none (am_QI Q) QX (0, 152, [(0, .inr (.inl (some 9))), (2, .inl (v2)), (3, .inr (.inl (some 2))), (4, .inr (.inl (some 3))), (6, .inl (v6)), (7, .inl (v7)), (8, .inl (v8)), (9, .inl (v9)), (10, .inl (v10)), (11, .inl (v11)), (12, .inl (v12)), (13, .inl (v13))], [], M) := by
  refine am_Wrun 2 (ps := []) (pc' := 156) (lv' := [(0, .inr (.inl (some 9))), (2, .inl (v2)), (3, .inr (.inl (some 2))), (4, .inr (.inl (some 3))), (6, .inl (v6)), (7, .inl (v7)), (8, .inl (v8)), (9, .inl (v9)), (10, .inl (v10)), (11, .inl (v11)), (12, .inl (v12)), (13, .inl (v13))]) (st' := [.inl (v11), .inl (v13)]) (M' := M) rfl trivial ?_
  obtain ⟨b0, b1, ht, hf⟩ := h
  refine am_Wbr (P := [am_rg v13, am_rg v11]) (c := v13 ≤ v11) (t := 167) (f := 159) (st' := []) rfl rfl ⟨b0, b1, trivial⟩ rfl (fun q => ?_) (fun q => ?_)
  · have h := ht q
    refine am_Wrun 2 (ps := []) (pc' := 112) (lv' := [(12, .inl (v12 + 1)), (0, .inr (.inl (some 9))), (2, .inl (v2)), (3, .inr (.inl (some 2))), (4, .inr (.inl (some 3))), (6, .inl (v6)), (7, .inl (v7)), (8, .inl (v8)), (9, .inl (v9)), (10, .inl (v10)), (11, .inl (v11)), (13, .inl (v13))]) (st' := []) (M' := M) rfl trivial ?_
    refine am_W_sub [1, 2, 3, 4, 5, 6, 7, 8, 9, 10, 0] rfl ?_
    exact hk112 v2 v6 v7 v8 v9 v10 v11 (v12 + 1) M h
  · have h := hf q
    refine am_Wrun 6 (ps := []) (pc' := 112) (lv' := [(12, .inl (v12 + 1)), (10, .inl (v12)), (11, .inl (v13)), (0, .inr (.inl (some 9))), (2, .inl (v2)), (3, .inr (.inl (some 2))), (4, .inr (.inl (some 3))), (6, .inl (v6)), (7, .inl (v7)), (8, .inl (v8)), (9, .inl (v9)), (13, .inl (v13))]) (st' := []) (M' := M) rfl trivial ?_
    refine am_W_sub [3, 4, 5, 6, 7, 8, 9, 10, 1, 2, 0] rfl ?_
    exact hk112 v2 v6 v7 v8 v9 v12 v13 (v12 + 1) M h
set_option maxRecDepth 20000 in
theorem tw_X1_findWorst_112 {Q : Int → am_M → Prop} {QX : am_X} : ∀ (n : Nat) (v2 : Int) (v6 : Int) (v7 : Int) (v8 : Int) (v9 : Int) (v10 : Int) (v11 : Int) (v12 : Int) (M : am_M), wl_X1_findWorst_112 Q n v2 v6 v7 v8 v9 v10 v11 v12 M → am_W (am_CC 1) dt_X1_findWorst 1 0 none (am_QI Q) QX (0, 112, [(0, .inr (.inl (some 9))), (2, .inl (v2)), (3, .inr (.inl (some 2))), (4, .inr (.inl (some 3))), (6, .inl (v6)), (7, .inl (v7)), (8, .inl (v8)), (9, .inl (v9)), (10, .inl (v10)), (11, .inl (v11)), (12, .inl (v12))], [], M)
  | 0, _, _, _, _, _, _, _, _, _, h => h.elim
  | n + 1, v2, v6, v7, v8, v9, v10, v11, v12, M, h => by
    refine am_Wrun 2 (ps := []) (pc' := 115) (lv' := [(0, .inr (.inl (some 9))), (2, .inl (v2)), (3, .inr (.inl (some 2))), (4, .inr (.inl (some 3))), (6, .inl (v6)), (7, .inl (v7)), (8, .inl (v8)), (9, .inl (v9)), (10, .inl (v10)), (11, .inl (v11)), (12, .inl (v12))]) (st' := [.inl (v2), .inl (v12)]) (M' := M) rfl trivial ?_
    obtain ⟨b0, b1, ht, hf⟩ := h
    refine am_Wbr (P := [am_rg v12, am_rg v2]) (c := v2 ≤ v12) (t := 173) (f := 118) (st' := []) rfl rfl ⟨b0, b1, trivial⟩ rfl (fun q => ?_) (fun q => ?_)
    · have h := ht q
      obtain ⟨c0_0, h⟩ := h
      refine am_Wrun 9 (ps := [am_rg v11 ∧ am_rg 0 ∧ am_cs [.inr (.inl (some 9))] ≤ 8]) (pc' := 191) (lv' := [(0, .inr (.inl (some 9))), (2, .inl (v2)), (3, .inr (.inl (some 2))), (4, .inr (.inl (some 3))), (6, .inl (v6)), (7, .inl (v7)), (8, .inl (v8)), (9, .inl (v9)), (10, .inl (v10)), (11, .inl (v11)), (12, .inl (v12))]) (st' := [.inl (v10)]) (M' := (am_up (am_up M 9 1 (if v11 < 0 then 0 else v11)) 9 2 v6)) rfl ⟨⟨c0_0, (am_rgd rfl), (by decide)⟩, trivial⟩ ?_
      exact am_Wreti rfl rfl h
    · have h := hf q
      obtain ⟨c0_0, c1_0, h⟩ := h
      refine am_Wrun 17 (ps := [0 ≤ (v12 : Int) ∧ (v12 : Int) < 60, 0 ≤ (v12 : Int) ∧ (v12 : Int) < 60]) (pc' := 144) (lv' := [(13, .inl ((((M 3 v12) - v9) * v6) - (v7 * ((M 2 v12) - v8)))), (0, .inr (.inl (some 9))), (2, .inl (v2)), (3, .inr (.inl (some 2))), (4, .inr (.inl (some 3))), (6, .inl (v6)), (7, .inl (v7)), (8, .inl (v8)), (9, .inl (v9)), (10, .inl (v10)), (11, .inl (v11)), (12, .inl (v12))]) (st' := [.inl ((((M 3 v12) - v9) * v6) - (v7 * ((M 2 v12) - v8)))]) (M' := M) rfl ⟨c0_0, c1_0, trivial⟩ ?_
      obtain ⟨b0, ht, hf⟩ := h
      refine am_Wbr (P := [am_rg ((((M 3 v12) - v9) * v6) - (v7 * ((M 2 v12) - v8)))]) (c := 0 ≤ ((((M 3 v12) - v9) * v6) - (v7 * ((M 2 v12) - v8)))) (t := 152) (f := 147) (st' := []) rfl rfl ⟨b0, trivial⟩ rfl (fun q => ?_) (fun q => ?_)
      · have h := ht q
        refine am_W_sub [1, 2, 3, 4, 5, 6, 7, 8, 9, 10, 11, 0] rfl ?_
        exact tj_X1_findWorst_152 (tw_X1_findWorst_112 n) v2 v6 v7 v8 v9 v10 v11 v12 ((((M 3 v12) - v9) * v6) - (v7 * ((M 2 v12) - v8))) M h
      · have h := hf q
        refine am_Wrun 3 (ps := []) (pc' := 152) (lv' := [(13, .inl (-((((M 3 v12) - v9) * v6) - (v7 * ((M 2 v12) - v8))))), (0, .inr (.inl (some 9))), (2, .inl (v2)), (3, .inr (.inl (some 2))), (4, .inr (.inl (some 3))), (6, .inl (v6)), (7, .inl (v7)), (8, .inl (v8)), (9, .inl (v9)), (10, .inl (v10)), (11, .inl (v11)), (12, .inl (v12))]) (st' := []) (M' := M) rfl trivial ?_
        refine am_W_sub [1, 2, 3, 4, 5, 6, 7, 8, 9, 10, 11, 0] rfl ?_
        exact tj_X1_findWorst_152 (tw_X1_findWorst_112 n) v2 v6 v7 v8 v9 v10 v11 v12 (-((((M 3 v12) - v9) * v6) - (v7 * ((M 2 v12) - v8)))) M h
set_option maxRecDepth 20000 in
theorem tj_X1_findWorst_87 {Q : Int → am_M → Prop} {QX : am_X} (v1 : Int) (v2 : Int) (v6 : Int) (s0 : Int) (M : am_M) (h : wj_X1_findWorst_87 Q v1 v2 v6 s0 M) : am_W (am_CC 1) dt_X1_findWorst 1 0 none (am_QI Q) QX (0, 87, [(0, .inr (.inl (some 9))), (1, .inl (v1)), (2, .inl (v2)), (3, .inr (.inl (some 2))), (4, .inr (.inl (some 3))), (6, .inl (v6))], [.inl (s0)], M) := by
  obtain ⟨c0_0, c1_0, h⟩ := h
  refine am_Wrun 17 (ps := [0 ≤ (v1 : Int) ∧ (v1 : Int) < 60, 0 ≤ (v1 : Int) ∧ (v1 : Int) < 60]) (pc' := 112) (lv' := [(12, .inl (v1 + 1)), (11, .inl ((-1))), (10, .inl ((-1000000))), (9, .inl (M 3 v1)), (8, .inl (M 2 v1)), (7, .inl (s0)), (0, .inr (.inl (some 9))), (1, .inl (v1)), (2, .inl (v2)), (3, .inr (.inl (some 2))), (4, .inr (.inl (some 3))), (6, .inl (v6))]) (st' := []) (M' := M) rfl ⟨c0_0, c1_0, trivial⟩ ?_
  refine am_W_sub [6, 8, 9, 10, 11, 5, 4, 3, 2, 1, 0] rfl ?_
  obtain ⟨n112, h⟩ := h
  exact tw_X1_findWorst_112 n112 v2 v6 s0 (M 2 v1) (M 3 v1) (-1000000) (-1) (v1 + 1) M h
set_option maxRecDepth 20000 in
theorem tj_X1_findWorst_67 {Q : Int → am_M → Prop} {QX : am_X} (v1 : Int) (v2 : Int) (v5 : Int) (s0 : Int) (M : am_M) (h : wj_X1_findWorst_67 Q v1 v2 v5 s0 M) : am_W (am_CC 1) dt_X1_findWorst 1 0 none (am_QI Q) QX (0, 67, [(0, .inr (.inl (some 9))), (1, .inl (v1)), (2, .inl (v2)), (3, .inr (.inl (some 2))), (4, .inr (.inl (some 3))), (5, .inl (v5))], [.inl (s0)], M) := by
  refine am_Wrun 2 (ps := []) (pc' := 71) (lv' := [(6, .inl (s0)), (0, .inr (.inl (some 9))), (1, .inl (v1)), (2, .inl (v2)), (3, .inr (.inl (some 2))), (4, .inr (.inl (some 3))), (5, .inl (v5))]) (st' := [.inl (v5)]) (M' := M) rfl trivial ?_
  obtain ⟨b0, ht, hf⟩ := h
  refine am_Wbr (P := [am_rg v5]) (c := v5 = 0) (t := 78) (f := 74) (st' := []) rfl rfl ⟨b0, trivial⟩ rfl (fun q => ?_) (fun q => ?_)
  · have h := ht q
    obtain ⟨c0_0, c1_0, h⟩ := h
    refine am_Wrun 7 (ps := [0 ≤ (v2 : Int) ∧ (v2 : Int) < 60, 0 ≤ (v1 : Int) ∧ (v1 : Int) < 60]) (pc' := 87) (lv' := [(6, .inl (s0)), (0, .inr (.inl (some 9))), (1, .inl (v1)), (2, .inl (v2)), (3, .inr (.inl (some 2))), (4, .inr (.inl (some 3))), (5, .inl (v5))]) (st' := [.inl ((M 3 v2) - (M 3 v1))]) (M' := M) rfl ⟨c0_0, c1_0, trivial⟩ ?_
    refine am_W_sub [1, 2, 3, 4, 5, 0] rfl ?_
    exact tj_X1_findWorst_87 v1 v2 s0 ((M 3 v2) - (M 3 v1)) M h
  · have h := hf q
    refine am_Wrun 2 (ps := []) (pc' := 87) (lv' := [(6, .inl (s0)), (0, .inr (.inl (some 9))), (1, .inl (v1)), (2, .inl (v2)), (3, .inr (.inl (some 2))), (4, .inr (.inl (some 3))), (5, .inl (v5))]) (st' := [.inl (0)]) (M' := M) rfl trivial ?_
    refine am_W_sub [1, 2, 3, 4, 5, 0] rfl ?_
    exact tj_X1_findWorst_87 v1 v2 s0 0 M h
set_option maxRecDepth 20000 in
theorem tm_X1_findWorst {a0 a1 : Int} {M : am_M} {Q : Int → am_M → Prop} (h : wp_X1_findWorst a0 a1 M Q) : am_CC 2 47 [.inr (.inl (some 9)), .inl (a0), .inl (a1)] M (am_QI Q) (fun _ _ => False) := by
  refine ⟨Nat.le_of_ble_eq_true rfl, ?_⟩
  show am_W (am_CC 1) dt_X1_findWorst 1 0 none (am_QI Q) (am_qx 47 (fun _ _ => False)) (0, 0, [(0, .inr (.inl (some 9))), (1, .inl (a0)), (2, .inl (a1))], [], M)
  refine am_Wrun 10 (ps := []) (pc' := 16) (lv' := [(0, .inr (.inl (some 9))), (1, .inl (a0)), (2, .inl (a1))]) (st' := [.inl (a1), .inl (a0), .inr (.inl (some 1))]) (M' := (am_up (am_up M 9 1 0) 9 2 1)) rfl trivial ?_
  refine am_WcallV (y := 12) (n := 3) (a := 1) (f := 19) (as := [.inl (a0), .inl (a1)]) (st' := []) rfl rfl rfl rfl rfl rfl rfl rfl rfl rfl (Nat.zero_le _) rfl (am_CC_le (Nat.le_of_ble_eq_true rfl) (tm_X2_sameStretch h)) (fun r M2 q => ?_) (fun _ _ q => q.elim)
  obtain ⟨x1, rfl, h⟩ := q
  obtain ⟨b0, ht, hf⟩ := h
  refine am_Wbr (P := [am_rg x1]) (c := ¬ x1 = 0) (t := 25) (f := 22) (st' := []) rfl rfl ⟨b0, trivial⟩ rfl (fun q => ?_) (fun q => ?_)
  · have h := ht q
    refine am_Wrun 10 (ps := []) (pc' := 46) (lv' := [(4, .inr (.inl (some 3))), (3, .inr (.inl (some 2))), (0, .inr (.inl (some 9))), (1, .inl (a0)), (2, .inl (a1))]) (st' := [.inr (.inl (some 1))]) (M' := M2) rfl trivial ?_
    refine am_WcallV (y := 16) (n := 1) (a := 1) (f := 49) (as := []) (st' := []) rfl rfl rfl rfl rfl rfl rfl rfl rfl rfl (Nat.zero_le _) rfl (am_CC_le (Nat.le_of_ble_eq_true rfl) (tm_X2_isStep h)) (fun r M4 q => ?_) (fun _ _ q => q.elim)
    obtain ⟨x3, rfl, h⟩ := q
    refine am_Wrun 2 (ps := []) (pc' := 53) (lv' := [(5, .inl (x3)), (4, .inr (.inl (some 3))), (3, .inr (.inl (some 2))), (0, .inr (.inl (some 9))), (1, .inl (a0)), (2, .inl (a1))]) (st' := [.inl (x3)]) (M' := M4) rfl trivial ?_
    obtain ⟨b0, ht, hf⟩ := h
    refine am_Wbr (P := [am_rg x3]) (c := x3 = 0) (t := 60) (f := 56) (st' := []) rfl rfl ⟨b0, trivial⟩ rfl (fun q => ?_) (fun q => ?_)
    · have h := ht q
      obtain ⟨c0_0, c1_0, h⟩ := h
      refine am_Wrun 7 (ps := [0 ≤ (a1 : Int) ∧ (a1 : Int) < 60, 0 ≤ (a0 : Int) ∧ (a0 : Int) < 60]) (pc' := 67) (lv' := [(5, .inl (x3)), (4, .inr (.inl (some 3))), (3, .inr (.inl (some 2))), (0, .inr (.inl (some 9))), (1, .inl (a0)), (2, .inl (a1))]) (st' := [.inl ((M4 2 a1) - (M4 2 a0))]) (M' := M4) rfl ⟨c0_0, c1_0, trivial⟩ ?_
      refine am_W_sub [3, 4, 5, 2, 1, 0] rfl ?_
      exact tj_X1_findWorst_67 a0 a1 x3 ((M4 2 a1) - (M4 2 a0)) M4 h
    · have h := hf q
      refine am_Wrun 2 (ps := []) (pc' := 67) (lv' := [(5, .inl (x3)), (4, .inr (.inl (some 3))), (3, .inr (.inl (some 2))), (0, .inr (.inl (some 9))), (1, .inl (a0)), (2, .inl (a1))]) (st' := [.inl (1)]) (M' := M4) rfl trivial ?_
      refine am_W_sub [3, 4, 5, 2, 1, 0] rfl ?_
      exact tj_X1_findWorst_67 a0 a1 x3 1 M4 h
  · have h := hf q
    refine am_Wrun 1 (ps := []) (pc' := 24) (lv' := [(0, .inr (.inl (some 9))), (1, .inl (a0)), (2, .inl (a1))]) (st' := [.inl ((-1000000))]) (M' := M2) rfl trivial ?_
    exact am_Wreti rfl rfl h
abbrev dt_X1_canJoin : am_D := (tk_X1_canJoin, 1, 3, some .boolean, tb_hn 46)
def wp_X1_canJoin (a0 : Int) (a1 : Int) (M : am_M) (Q : Int → am_M → Prop) : Prop := wp_X1_findWorst a0 a1 M (fun x1 M2 => wp_X2_sameStretch a0 a1 M2 (fun x3 M4 => (am_rg x3) ∧ (x3 = 0 → Q 0 M4) ∧ (¬ x3 = 0 → (am_rg (M4 9 1)) ∧ (am_rg ((M4 6 0) * (M4 9 2))) ∧ (((M4 6 0) * (M4 9 2)) < (M4 9 1) → Q 0 M4) ∧ (¬ ((M4 6 0) * (M4 9 2)) < (M4 9 1) → Q 1 M4))))
set_option maxRecDepth 20000 in
theorem tm_X1_canJoin {a0 a1 : Int} {M : am_M} {Q : Int → am_M → Prop} (h : wp_X1_canJoin a0 a1 M Q) : am_CC 3 46 [.inr (.inl (some 9)), .inl (a0), .inl (a1)] M (am_QI Q) (fun _ _ => False) := by
  refine ⟨Nat.le_of_ble_eq_true rfl, ?_⟩
  show am_W (am_CC 2) dt_X1_canJoin 2 0 none (am_QI Q) (am_qx 46 (fun _ _ => False)) (0, 0, [(0, .inr (.inl (some 9))), (1, .inl (a0)), (2, .inl (a1))], [], M)
  refine am_Wrun 3 (ps := []) (pc' := 3) (lv' := [(0, .inr (.inl (some 9))), (1, .inl (a0)), (2, .inl (a1))]) (st' := [.inl (a1), .inl (a0), .inr (.inl (some 9))]) (M' := M) rfl trivial ?_
  refine am_WcallV (y := 47) (n := 3) (a := 9) (f := 6) (as := [.inl (a0), .inl (a1)]) (st' := []) rfl rfl rfl rfl rfl rfl rfl rfl rfl rfl (Nat.zero_le _) rfl (am_CC_le (Nat.le_of_ble_eq_true rfl) (tm_X1_findWorst h)) (fun r M2 q => ?_) (fun _ _ q => q.elim)
  obtain ⟨x1, rfl, h⟩ := q
  refine am_Wrun 5 (ps := []) (pc' := 13) (lv' := [(0, .inr (.inl (some 9))), (1, .inl (a0)), (2, .inl (a1))]) (st' := [.inl (a1), .inl (a0), .inr (.inl (some 1))]) (M' := M2) rfl trivial ?_
  refine am_WcallV (y := 12) (n := 3) (a := 1) (f := 16) (as := [.inl (a0), .inl (a1)]) (st' := []) rfl rfl rfl rfl rfl rfl rfl rfl rfl rfl (Nat.zero_le _) rfl (am_CC_le (Nat.le_of_ble_eq_true rfl) (tm_X2_sameStretch h)) (fun r M4 q => ?_) (fun _ _ q => q.elim)
  obtain ⟨x3, rfl, h⟩ := q
  obtain ⟨b0, ht, hf⟩ := h
  refine am_Wbr (P := [am_rg x3]) (c := x3 = 0) (t := 44) (f := 19) (st' := []) rfl rfl ⟨b0, trivial⟩ rfl (fun q => ?_) (fun q => ?_)
  · have h := ht q
    refine am_Wrun 1 (ps := []) (pc' := 45) (lv' := [(0, .inr (.inl (some 9))), (1, .inl (a0)), (2, .inl (a1))]) (st' := [.inl (0)]) (M' := M4) rfl trivial ?_
    exact am_Wretz rfl rfl (Or.inl rfl) h
  · have h := hf q
    refine am_Wrun 10 (ps := [0 ≤ (0 : Int) ∧ (0 : Int) < 3]) (pc' := 37) (lv' := [(0, .inr (.inl (some 9))), (1, .inl (a0)), (2, .inl (a1))]) (st' := [.inl ((M4 6 0) * (M4 9 2)), .inl (M4 9 1)]) (M' := M4) rfl ⟨⟨by decide, by decide⟩, trivial⟩ ?_
    obtain ⟨b0, b1, ht, hf⟩ := h
    refine am_Wbr (P := [am_rg (M4 9 1), am_rg ((M4 6 0) * (M4 9 2))]) (c := ((M4 6 0) * (M4 9 2)) < (M4 9 1)) (t := 44) (f := 40) (st' := []) rfl rfl ⟨b0, b1, trivial⟩ rfl (fun q => ?_) (fun q => ?_)
    · have h := ht q
      refine am_Wrun 1 (ps := []) (pc' := 45) (lv' := [(0, .inr (.inl (some 9))), (1, .inl (a0)), (2, .inl (a1))]) (st' := [.inl (0)]) (M' := M4) rfl trivial ?_
      exact am_Wretz rfl rfl (Or.inl rfl) h
    · have h := hf q
      refine am_Wrun 2 (ps := []) (pc' := 45) (lv' := [(0, .inr (.inl (some 9))), (1, .inl (a0)), (2, .inl (a1))]) (st' := [.inl (1)]) (M' := M4) rfl trivial ?_
      exact am_Wretz rfl rfl (Or.inr rfl) h
abbrev dt_X1_reasonToKeep : am_D := (tk_X1_reasonToKeep, 1, 4, some .int, tb_hn 45)
def wp_X1_reasonToKeep (a0 : Int) (M : am_M) (Q : Int → am_M → Prop) : Prop := wp_X2_isKept a0 M (fun x1 M2 => (am_rg x1) ∧ (¬ x1 = 0 → wp_X2_earlierKept a0 M2 (fun x3 M4 => wp_X2_laterKept a0 M4 (fun x5 M6 => (am_rg x3) ∧ (x3 = (-1000000) → Q 2 M6) ∧ (¬ x3 = (-1000000) → (am_rg x5) ∧ (¬ x5 = (-1000000) → wp_X1_canJoin x3 x5 M6 (fun x7 M8 => (am_rg x7) ∧ (x7 = 0 → Q 3 M8) ∧ (¬ x7 = 0 → Q 0 M8))) ∧ (¬ (¬ x5 = (-1000000)) → Q 2 M6))))) ∧ (¬ (¬ x1 = 0) → Q 1 M2))
set_option maxRecDepth 20000 in
theorem tm_X1_reasonToKeep {a0 : Int} {M : am_M} {Q : Int → am_M → Prop} (h : wp_X1_reasonToKeep a0 M Q) : am_CC 4 45 [.inr (.inl (some 9)), .inl (a0)] M (am_QI Q) (fun _ _ => False) := by
  refine ⟨Nat.le_of_ble_eq_true rfl, ?_⟩
  show am_W (am_CC 3) dt_X1_reasonToKeep 3 0 none (am_QI Q) (am_qx 45 (fun _ _ => False)) (0, 0, [(0, .inr (.inl (some 9))), (1, .inl (a0))], [], M)
  refine am_Wrun 3 (ps := []) (pc' := 5) (lv' := [(0, .inr (.inl (some 9))), (1, .inl (a0))]) (st' := [.inl (a0), .inr (.inl (some 1))]) (M' := M) rfl trivial ?_
  refine am_WcallV (y := 8) (n := 2) (a := 1) (f := 8) (as := [.inl (a0)]) (st' := []) rfl rfl rfl rfl rfl rfl rfl rfl rfl rfl (Nat.zero_le _) rfl (am_CC_le (Nat.le_of_ble_eq_true rfl) (tm_X2_isKept h)) (fun r M2 q => ?_) (fun _ _ q => q.elim)
  obtain ⟨x1, rfl, h⟩ := q
  obtain ⟨b0, ht, hf⟩ := h
  refine am_Wbr (P := [am_rg x1]) (c := ¬ x1 = 0) (t := 13) (f := 11) (st' := []) rfl rfl ⟨b0, trivial⟩ rfl (fun q => ?_) (fun q => ?_)
  · have h := ht q
    refine am_Wrun 3 (ps := []) (pc' := 18) (lv' := [(0, .inr (.inl (some 9))), (1, .inl (a0))]) (st' := [.inl (a0), .inr (.inl (some 1))]) (M' := M2) rfl trivial ?_
    refine am_WcallV (y := 10) (n := 2) (a := 1) (f := 21) (as := [.inl (a0)]) (st' := []) rfl rfl rfl rfl rfl rfl rfl rfl rfl rfl (Nat.zero_le _) rfl (am_CC_le (Nat.le_of_ble_eq_true rfl) (tm_X2_earlierKept h)) (fun r M4 q => ?_) (fun _ _ q => q.elim)
    obtain ⟨x3, rfl, h⟩ := q
    refine am_Wrun 4 (ps := []) (pc' := 27) (lv' := [(2, .inl (x3)), (0, .inr (.inl (some 9))), (1, .inl (a0))]) (st' := [.inl (a0), .inr (.inl (some 1))]) (M' := M4) rfl trivial ?_
    refine am_WcallV (y := 13) (n := 2) (a := 1) (f := 30) (as := [.inl (a0)]) (st' := []) rfl rfl rfl rfl rfl rfl rfl rfl rfl rfl (Nat.zero_le _) rfl (am_CC_le (Nat.le_of_ble_eq_true rfl) (tm_X2_laterKept h)) (fun r M6 q => ?_) (fun _ _ q => q.elim)
    obtain ⟨x5, rfl, h⟩ := q
    refine am_Wrun 3 (ps := []) (pc' := 34) (lv' := [(3, .inl (x5)), (2, .inl (x3)), (0, .inr (.inl (some 9))), (1, .inl (a0))]) (st' := [.inl ((-1000000)), .inl (x3)]) (M' := M6) rfl trivial ?_
    obtain ⟨b0, ht, hf⟩ := h
    refine am_Wbr (P := [am_rg x3, am_rg (-1000000)]) (c := x3 = (-1000000)) (t := 43) (f := 37) (st' := []) rfl rfl ⟨b0, (am_rgd rfl), trivial⟩ rfl (fun q => ?_) (fun q => ?_)
    · have h := ht q
      refine am_Wrun 1 (ps := []) (pc' := 44) (lv' := [(3, .inl (x5)), (2, .inl (x3)), (0, .inr (.inl (some 9))), (1, .inl (a0))]) (st' := [.inl (2)]) (M' := M6) rfl trivial ?_
      exact am_Wreti rfl rfl h
    · have h := hf q
      refine am_Wrun 2 (ps := []) (pc' := 40) (lv' := [(3, .inl (x5)), (2, .inl (x3)), (0, .inr (.inl (some 9))), (1, .inl (a0))]) (st' := [.inl ((-1000000)), .inl (x5)]) (M' := M6) rfl trivial ?_
      obtain ⟨b0, ht, hf⟩ := h
      refine am_Wbr (P := [am_rg x5, am_rg (-1000000)]) (c := ¬ x5 = (-1000000)) (t := 45) (f := 43) (st' := []) rfl rfl ⟨b0, (am_rgd rfl), trivial⟩ rfl (fun q => ?_) (fun q => ?_)
      · have h := ht q
        refine am_Wrun 3 (ps := []) (pc' := 48) (lv' := [(3, .inl (x5)), (2, .inl (x3)), (0, .inr (.inl (some 9))), (1, .inl (a0))]) (st' := [.inl (x5), .inl (x3), .inr (.inl (some 9))]) (M' := M6) rfl trivial ?_
        refine am_WcallV (y := 46) (n := 3) (a := 9) (f := 51) (as := [.inl (x3), .inl (x5)]) (st' := []) rfl rfl rfl rfl rfl rfl rfl rfl rfl rfl (Nat.zero_le _) rfl (am_CC_le (Nat.le_of_ble_eq_true rfl) (tm_X1_canJoin h)) (fun r M8 q => ?_) (fun _ _ q => q.elim)
        obtain ⟨x7, rfl, h⟩ := q
        obtain ⟨b0, ht, hf⟩ := h
        refine am_Wbr (P := [am_rg x7]) (c := x7 = 0) (t := 58) (f := 54) (st' := []) rfl rfl ⟨b0, trivial⟩ rfl (fun q => ?_) (fun q => ?_)
        · have h := ht q
          refine am_Wrun 1 (ps := []) (pc' := 59) (lv' := [(3, .inl (x5)), (2, .inl (x3)), (0, .inr (.inl (some 9))), (1, .inl (a0))]) (st' := [.inl (3)]) (M' := M8) rfl trivial ?_
          exact am_Wreti rfl rfl h
        · have h := hf q
          refine am_Wrun 2 (ps := []) (pc' := 59) (lv' := [(3, .inl (x5)), (2, .inl (x3)), (0, .inr (.inl (some 9))), (1, .inl (a0))]) (st' := [.inl (0)]) (M' := M8) rfl trivial ?_
          exact am_Wreti rfl rfl h
      · have h := hf q
        refine am_Wrun 1 (ps := []) (pc' := 44) (lv' := [(3, .inl (x5)), (2, .inl (x3)), (0, .inr (.inl (some 9))), (1, .inl (a0))]) (st' := [.inl (2)]) (M' := M6) rfl trivial ?_
        exact am_Wreti rfl rfl h
  · have h := hf q
    refine am_Wrun 1 (ps := []) (pc' := 12) (lv' := [(0, .inr (.inl (some 9))), (1, .inl (a0))]) (st' := [.inl (1)]) (M' := M2) rfl trivial ?_
    exact am_Wreti rfl rfl h
abbrev dt_X2_keptPoints : am_D := (tk_X2_keptPoints, 2, 3, some .int, tb_hn 5)
def wl_X2_keptPoints_4 (Q : Int → am_M → Prop) : Nat → Int → Int → am_M → Prop
  | 0, _, _, _ => False
  | n + 1, v1, v2, M => (am_rg v2) ∧ (am_rg (M 1 7)) ∧ ((M 1 7) ≤ v2 → Q v1 M) ∧ (¬ (M 1 7) ≤ v2 → (0 ≤ (v2 : Int) ∧ (v2 : Int) < 60) ∧ (wl_X2_keptPoints_4 Q n (v1 + (M 4 v2)) (v2 + 1) M))
def wp_X2_keptPoints (M : am_M) (Q : Int → am_M → Prop) : Prop := ∃ e4, wl_X2_keptPoints_4 Q e4 0 0 M
set_option maxRecDepth 20000 in
theorem tw_X2_keptPoints_4 {Q : Int → am_M → Prop} {QX : am_X} : ∀ (n : Nat) (v1 : Int) (v2 : Int) (M : am_M), wl_X2_keptPoints_4 Q n v1 v2 M → am_W (am_CC 0) dt_X2_keptPoints 0 0 none (am_QI Q) QX (0, 4, [(0, .inr (.inl (some 1))), (1, .inl (v1)), (2, .inl (v2))], [], M)
  | 0, _, _, _, h => h.elim
  | n + 1, v1, v2, M, h => by
    refine am_Wrun 3 (ps := []) (pc' := 9) (lv' := [(0, .inr (.inl (some 1))), (1, .inl (v1)), (2, .inl (v2))]) (st' := [.inl (M 1 7), .inl (v2)]) (M' := M) rfl trivial ?_
    obtain ⟨b0, b1, ht, hf⟩ := h
    refine am_Wbr (P := [am_rg v2, am_rg (M 1 7)]) (c := (M 1 7) ≤ v2) (t := 27) (f := 12) (st' := []) rfl rfl ⟨b0, b1, trivial⟩ rfl (fun q => ?_) (fun q => ?_)
    · have h := ht q
      refine am_Wrun 1 (ps := []) (pc' := 28) (lv' := [(0, .inr (.inl (some 1))), (1, .inl (v1)), (2, .inl (v2))]) (st' := [.inl (v1)]) (M' := M) rfl trivial ?_
      exact am_Wreti rfl rfl h
    · have h := hf q
      obtain ⟨c0_0, h⟩ := h
      refine am_Wrun 9 (ps := [0 ≤ (v2 : Int) ∧ (v2 : Int) < 60]) (pc' := 4) (lv' := [(2, .inl (v2 + 1)), (1, .inl (v1 + (M 4 v2))), (0, .inr (.inl (some 1)))]) (st' := []) (M' := M) rfl ⟨c0_0, trivial⟩ ?_
      refine am_W_sub [2, 1, 0] rfl ?_
      exact tw_X2_keptPoints_4 n (v1 + (M 4 v2)) (v2 + 1) M h
set_option maxRecDepth 20000 in
theorem tm_X2_keptPoints {M : am_M} {Q : Int → am_M → Prop} (h : wp_X2_keptPoints M Q) : am_CC 1 5 [.inr (.inl (some 1))] M (am_QI Q) (fun _ _ => False) := by
  refine ⟨Nat.le_of_ble_eq_true rfl, ?_⟩
  show am_W (am_CC 0) dt_X2_keptPoints 0 0 none (am_QI Q) (am_qx 5 (fun _ _ => False)) (0, 0, [(0, .inr (.inl (some 1)))], [], M)
  refine am_Wrun 4 (ps := []) (pc' := 4) (lv' := [(2, .inl (0)), (1, .inl (0)), (0, .inr (.inl (some 1)))]) (st' := []) (M' := M) rfl trivial ?_
  refine am_W_sub [2, 1, 0] rfl ?_
  obtain ⟨n4, h⟩ := h
  exact tw_X2_keptPoints_4 n4 0 0 M h
abbrev dt_X5_drop : am_D := (tk_X5_drop, 5, 2, some .int, tb_hn 86)
def wp_X5_drop (a0 : Int) (M : am_M) (Q : Int → am_M → Prop) (X : am_X) : Prop := wp_X5_refuseNoPoint a0 M (fun M1 => wp_X1_reasonToKeep a0 M1 (fun x2 M3 => (am_rg x2) ∧ (x2 = 0 → wp_X0_remember M3 (fun M4 => (0 ≤ (a0 : Int) ∧ (a0 : Int) < 60) ∧ (wp_X2_keptPoints (am_up M4 4 a0 0) (fun x5 M6 => Q x5 M6)))) ∧ (¬ x2 = 0 → X 1 M3))) X
set_option maxRecDepth 20000 in
theorem tm_X5_drop {a0 : Int} {M : am_M} {Q : Int → am_M → Prop} {X : am_X} (h : wp_X5_drop a0 M Q X) : am_CC 7 86 [.inr (.inl (some 0)), .inl (a0)] M (am_QI Q) X := by
  refine ⟨Nat.le_of_ble_eq_true rfl, ?_⟩
  show am_W (am_CC 6) dt_X5_drop 6 0 none (am_QI Q) (am_qx 86 X) (0, 0, [(0, .inr (.inl (some 0))), (1, .inl (a0))], [], M)
  have hX : ∀ E M, X E M → am_qx 86 X E M := fun E M q => ⟨⟨rfl, by decide⟩, q⟩
  refine am_Wrun 2 (ps := []) (pc' := 2) (lv' := [(0, .inr (.inl (some 0))), (1, .inl (a0))]) (st' := [.inl (a0), .inr (.inl (some 0))]) (M' := M) rfl trivial ?_
  refine am_WcallV (y := 44) (n := 2) (a := 0) (f := 5) (as := [.inl (a0)]) (st' := []) rfl rfl rfl rfl rfl rfl rfl rfl rfl rfl (Nat.zero_le _) rfl (am_CC_le (Nat.le_of_ble_eq_true rfl) (tm_X5_refuseNoPoint h)) (fun r M1 q => ?_) (fun E M q => hX _ _ q)
  obtain ⟨rfl, h⟩ := q
  refine am_Wrun 3 (ps := []) (pc' := 10) (lv' := [(0, .inr (.inl (some 0))), (1, .inl (a0))]) (st' := [.inl (a0), .inr (.inl (some 9))]) (M' := M1) rfl trivial ?_
  refine am_WcallV (y := 45) (n := 2) (a := 9) (f := 13) (as := [.inl (a0)]) (st' := []) rfl rfl rfl rfl rfl rfl rfl rfl rfl rfl (Nat.zero_le _) rfl (am_CC_le (Nat.le_of_ble_eq_true rfl) (tm_X1_reasonToKeep h)) (fun r M3 q => ?_) (fun _ _ q => q.elim)
  obtain ⟨x2, rfl, h⟩ := q
  obtain ⟨b0, ht, hf⟩ := h
  refine am_Wbr (P := [am_rg x2]) (c := x2 = 0) (t := 26) (f := 16) (st' := []) rfl rfl ⟨b0, trivial⟩ rfl (fun q => ?_) (fun q => ?_)
  · have h := ht q
    refine am_Wrun 4 (ps := []) (pc' := 34) (lv' := [(0, .inr (.inl (some 0))), (1, .inl (a0))]) (st' := [.inr (.inl (some 1)), .inr (.inl (some 14))]) (M' := M3) rfl trivial ?_
    refine am_WcallV (y := 1) (n := 2) (a := 14) (f := 37) (as := [.inr (.inl (some 1))]) (st' := []) rfl rfl rfl rfl rfl rfl rfl rfl rfl rfl (Nat.zero_le _) rfl (am_CC_le (Nat.le_of_ble_eq_true rfl) (tm_X0_remember h)) (fun r M4 q => ?_) (fun _ _ q => q.elim)
    obtain ⟨rfl, h⟩ := q
    obtain ⟨c0_0, h⟩ := h
    refine am_Wrun 8 (ps := [0 ≤ (a0 : Int) ∧ (a0 : Int) < 60]) (pc' := 51) (lv' := [(0, .inr (.inl (some 0))), (1, .inl (a0))]) (st' := [.inr (.inl (some 1))]) (M' := (am_up M4 4 a0 0)) rfl ⟨c0_0, trivial⟩ ?_
    refine am_WcallV (y := 5) (n := 1) (a := 1) (f := 54) (as := []) (st' := []) rfl rfl rfl rfl rfl rfl rfl rfl rfl rfl (Nat.zero_le _) rfl (am_CC_le (Nat.le_of_ble_eq_true rfl) (tm_X2_keptPoints h)) (fun r M6 q => ?_) (fun _ _ q => q.elim)
    obtain ⟨x5, rfl, h⟩ := q
    exact am_Wreti rfl rfl h
  · have h := hf q
    exact am_Wthr (is := 101) (ic := 77) (E := 1) rfl (Nat.le_of_ble_eq_true rfl) rfl rfl rfl rfl (Or.inl ⟨rfl, rfl, rfl⟩) (hX _ _ h)
abbrev dt_L_drop : am_D := (tk_L_drop, 9, 4, some .int, tb_hn 201)
def wp_L_drop (a1 : Int) (M : am_M) (Q : Int → am_M → Prop) : Prop := wp_X5_drop a1 M (fun x1 M2 => (am_rg x1) ∧ (Q 0 (am_up M2 80 0 x1))) (fun E M3 => (E = 2 ∧ Q 1 M3) ∨ (E = 1 ∧ Q 2 M3))
set_option maxRecDepth 20000 in
theorem tm_L_drop {a1 : Int} {M : am_M} {Q : Int → am_M → Prop} (h : wp_L_drop a1 M Q) : am_CC 8 201 [.inr (.inl (some 0)), .inl (a1), .inr (.inl (some 80))] M (am_QI Q) (fun _ _ => False) := by
  refine ⟨Nat.le_of_ble_eq_true rfl, ?_⟩
  show am_W (am_CC 7) dt_L_drop 7 1 none (am_QI Q) (am_qx 201 (fun _ _ => False)) (0, 0, [(0, .inr (.inl (some 0))), (1, .inl (a1)), (2, .inr (.inl (some 80)))], [], M)
  refine am_Wrun 4 (ps := []) (pc' := 4) (lv' := [(0, .inr (.inl (some 0))), (1, .inl (a1)), (2, .inr (.inl (some 80)))]) (st' := [.inl (a1), .inr (.inl (some 0)), .inl (0), .inr (.inl (some 80))]) (M' := M) rfl trivial ?_
  refine am_WcallV (y := 86) (n := 2) (a := 0) (f := 7) (as := [.inl (a1)]) (st' := [.inl (0), .inr (.inl (some 80))]) rfl rfl rfl rfl rfl rfl rfl rfl rfl rfl (Nat.zero_le _) rfl (am_CC_le (Nat.le_of_ble_eq_true rfl) (tm_X5_drop h)) (fun r M2 q => ?_) (fun E M3 q => ?_)
  · obtain ⟨x1, rfl, h⟩ := q
    obtain ⟨c0_0, h⟩ := h
    refine am_Wrun 4 (ps := [am_rg x1, 0 ≤ (0 : Int) ∧ (0 : Int) < 1]) (pc' := 19) (lv' := [(0, .inr (.inl (some 0))), (1, .inl (a1)), (2, .inr (.inl (some 80)))]) (st' := [.inl (0)]) (M' := (am_up M2 80 0 x1)) rfl ⟨c0_0, ⟨by decide, by decide⟩, trivial⟩ ?_
    exact am_Wreti rfl rfl h
  · rcases q with ⟨rfl, h⟩ | ⟨rfl, h⟩
    · show 0 + 1 ≤ 1 ∧ am_W (am_CC 7) dt_L_drop 7 1 none (am_QI Q) _ (0 + 1, 13, [(0, .inr (.inl (some 0))), (1, .inl (a1)), (2, .inr (.inl (some 80)))], [], M3)
      refine ⟨Nat.le_refl _, ?_⟩
      refine am_Wrun 1 (ps := []) (pc' := 14) (lv' := [(0, .inr (.inl (some 0))), (1, .inl (a1)), (2, .inr (.inl (some 80)))]) (st' := [.inl (1)]) (M' := M3) rfl trivial ?_
      exact am_Wreti rfl rfl h
    · show 0 + 1 ≤ 1 ∧ am_W (am_CC 7) dt_L_drop 7 1 none (am_QI Q) _ (0 + 1, 16, [(0, .inr (.inl (some 0))), (1, .inl (a1)), (2, .inr (.inl (some 80)))], [], M3)
      refine ⟨Nat.le_refl _, ?_⟩
      refine am_Wrun 1 (ps := []) (pc' := 17) (lv' := [(0, .inr (.inl (some 0))), (1, .inl (a1)), (2, .inr (.inl (some 80)))]) (st' := [.inl (2)]) (M' := M3) rfl trivial ?_
      exact am_Wreti rfl rfl h
abbrev dt_X6_isKept : am_D := (tk_X6_isKept, 6, 2, some .boolean, tb_hn 123)
def wp_X6_isKept (a0 : Int) (M : am_M) (Q : Int → am_M → Prop) : Prop := (0 ≤ (127 + a0 : Int) ∧ (127 + a0 : Int) < 203) ∧ ((am_rg (M 70 (127 + a0))) ∧ (¬ (M 70 (127 + a0)) = 1 → Q 0 M) ∧ (¬ (¬ (M 70 (127 + a0)) = 1) → Q 1 M))
set_option maxRecDepth 20000 in
theorem tm_X6_isKept {a0 : Int} {M : am_M} {Q : Int → am_M → Prop} (h : wp_X6_isKept a0 M Q) : am_CC 1 123 [.inr (.inl (some 69)), .inl (a0)] M (am_QI Q) (fun _ _ => False) := by
  refine ⟨Nat.le_of_ble_eq_true rfl, ?_⟩
  show am_W (am_CC 0) dt_X6_isKept 0 0 none (am_QI Q) (am_qx 123 (fun _ _ => False)) (0, 0, [(0, .inr (.inl (some 69))), (1, .inl (a0))], [], M)
  obtain ⟨c1_0, h⟩ := h
  refine am_Wrun 7 (ps := [-128 ≤ (127 : Int) ∧ (127 : Int) ≤ 127, 0 ≤ (127 + a0 : Int) ∧ (127 + a0 : Int) < 203]) (pc' := 10) (lv' := [(0, .inr (.inl (some 69))), (1, .inl (a0))]) (st' := [.inl (1), .inl (M 70 (127 + a0))]) (M' := M) rfl ⟨⟨by decide, by decide⟩, c1_0, trivial⟩ ?_
  obtain ⟨b0, ht, hf⟩ := h
  refine am_Wbr (P := [am_rg (M 70 (127 + a0)), am_rg 1]) (c := ¬ (M 70 (127 + a0)) = 1) (t := 17) (f := 13) (st' := []) rfl rfl ⟨b0, (am_rgd rfl), trivial⟩ rfl (fun q => ?_) (fun q => ?_)
  · have h := ht q
    refine am_Wrun 1 (ps := []) (pc' := 18) (lv' := [(0, .inr (.inl (some 69))), (1, .inl (a0))]) (st' := [.inl (0)]) (M' := M) rfl trivial ?_
    exact am_Wretz rfl rfl (Or.inl rfl) h
  · have h := hf q
    refine am_Wrun 2 (ps := []) (pc' := 18) (lv' := [(0, .inr (.inl (some 69))), (1, .inl (a0))]) (st' := [.inl (1)]) (M' := M) rfl trivial ?_
    exact am_Wretz rfl rfl (Or.inr rfl) h
abbrev dt_X6_around : am_D := (tk_X6_around, 6, 3, none, tb_hn 125)
def wj_X6_around_48 (Q : am_M → Prop) (k12 : Int → Int → am_M → Prop) (v1 : Int) (v2 : Int) (s0 : Int) (M : am_M) : Prop := wp_X6_isKept v2 (am_up M 69 9 s0) (fun x3 M4 => (am_rg x3) ∧ (x3 = 0 → k12 v1 (v2 + 1) (am_up M4 69 10 (M4 69 10))) ∧ (¬ x3 = 0 → wp_X6_time v2 M4 (fun x5 M6 => (am_rg x5) ∧ (am_rg v1) ∧ (x5 ≤ v1 → k12 v1 (v2 + 1) (am_up M6 69 10 (M6 69 10))) ∧ (¬ x5 ≤ v1 → (am_rg (M6 69 10)) ∧ (0 ≤ (M6 69 10) → k12 v1 (v2 + 1) (am_up M6 69 10 (M6 69 10))) ∧ (¬ 0 ≤ (M6 69 10) → k12 v1 (v2 + 1) (am_up M6 69 10 v2))))))
def wj_X6_around_44 (Q : am_M → Prop) (k12 : Int → Int → am_M → Prop) (v1 : Int) (v2 : Int) (M : am_M) : Prop := wj_X6_around_48 Q k12 v1 v2 (M 69 9) M
def wl_X6_around_12 (Q : am_M → Prop) : Nat → Int → Int → am_M → Prop
  | 0, _, _, _ => False
  | n + 1, v1, v2, M => (am_rg v2) ∧ (am_rg (M 70 0)) ∧ ((M 70 0) ≤ v2 → Q M) ∧ (¬ (M 70 0) ≤ v2 → wp_X6_isKept v2 M (fun x1 M2 => (am_rg x1) ∧ (x1 = 0 → wj_X6_around_44 Q (wl_X6_around_12 Q n) v1 v2 M2) ∧ (¬ x1 = 0 → wp_X6_time v2 M2 (fun x7 M8 => (am_rg x7) ∧ (am_rg v1) ∧ (v1 ≤ x7 → wj_X6_around_44 Q (wl_X6_around_12 Q n) v1 v2 M8) ∧ (¬ v1 ≤ x7 → wj_X6_around_48 Q (wl_X6_around_12 Q n) v1 v2 v2 M8)))))
def wp_X6_around (a0 : Int) (M : am_M) (Q : am_M → Prop) : Prop := ∃ e12, wl_X6_around_12 Q e12 a0 0 (am_up (am_up M 69 9 (-1)) 69 10 (-1))
set_option maxRecDepth 20000 in
theorem tj_X6_around_48 {Q : am_M → Prop} {QX : am_X} {k12 : Int → Int → am_M → Prop} (hk12 : ∀ (v1 : Int) (v2 : Int) (M : am_M), k12 v1 v2 M → am_W (am_CC 1) dt_X6_around 1 0 none (am_QV Q) QX (0, 12, [(0, .inr (.inl (some 69))), (1, .inl (v1)), (2, .inl (v2))], [], M)) (v1 : Int) (v2 : Int) (s0 : Int) (M : am_M) (h : wj_X6_around_48 Q k12 v1 v2 s0 M) : am_W (am_CC 1) dt_X6_around 1 0 none (am_QV Q) QX (0, 48, [(0, .inr (.inl (some 69))), (1, .inl (v1)), (2, .inl (v2))], [.inl (s0), .inr (.inl (some 69))], M) := by
  refine am_Wrun 4 (ps := []) (pc' := 54) (lv' := [(0, .inr (.inl (some 69))), (1, .inl (v1)), (2, .inl (v2))]) (st' := [.inl (v2), .inr (.inl (some 69)), .inr (.inl (some 69))]) (M' := (am_up M 69 9 s0)) rfl trivial ?_
  refine am_WcallV (y := 123) (n := 2) (a := 69) (f := 57) (as := [.inl (v2)]) (st' := [.inr (.inl (some 69))]) rfl rfl rfl rfl rfl rfl rfl rfl rfl rfl (Nat.zero_le _) rfl (am_CC_le (Nat.le_of_ble_eq_true rfl) (tm_X6_isKept h)) (fun r M4 q => ?_) (fun _ _ q => q.elim)
  obtain ⟨x3, rfl, h⟩ := q
  obtain ⟨b0, ht, hf⟩ := h
  refine am_Wbr (P := [am_rg x3]) (c := x3 = 0) (t := 80) (f := 60) (st' := [.inr (.inl (some 69))]) rfl rfl ⟨b0, trivial⟩ rfl (fun q => ?_) (fun q => ?_)
  · have h := ht q
    refine am_Wrun 5 (ps := []) (pc' := 12) (lv' := [(2, .inl (v2 + 1)), (0, .inr (.inl (some 69))), (1, .inl (v1))]) (st' := []) (M' := (am_up M4 69 10 (M4 69 10))) rfl trivial ?_
    refine am_W_sub [1, 2, 0] rfl ?_
    exact hk12 v1 (v2 + 1) (am_up M4 69 10 (M4 69 10)) h
  · have h := hf q
    refine am_Wrun 2 (ps := []) (pc' := 62) (lv' := [(0, .inr (.inl (some 69))), (1, .inl (v1)), (2, .inl (v2))]) (st' := [.inl (v2), .inr (.inl (some 69)), .inr (.inl (some 69))]) (M' := M4) rfl trivial ?_
    refine am_WcallV (y := 115) (n := 2) (a := 69) (f := 65) (as := [.inl (v2)]) (st' := [.inr (.inl (some 69))]) rfl rfl rfl rfl rfl rfl rfl rfl rfl rfl (Nat.zero_le _) rfl (am_CC_le (Nat.le_of_ble_eq_true rfl) (tm_X6_time h)) (fun r M6 q => ?_) (fun _ _ q => q.elim)
    obtain ⟨x5, rfl, h⟩ := q
    refine am_Wrun 1 (ps := []) (pc' := 66) (lv' := [(0, .inr (.inl (some 69))), (1, .inl (v1)), (2, .inl (v2))]) (st' := [.inl (v1), .inl (x5), .inr (.inl (some 69))]) (M' := M6) rfl trivial ?_
    obtain ⟨b0, b1, ht, hf⟩ := h
    refine am_Wbr (P := [am_rg x5, am_rg v1]) (c := x5 ≤ v1) (t := 80) (f := 69) (st' := [.inr (.inl (some 69))]) rfl rfl ⟨b0, b1, trivial⟩ rfl (fun q => ?_) (fun q => ?_)
    · have h := ht q
      refine am_Wrun 5 (ps := []) (pc' := 12) (lv' := [(2, .inl (v2 + 1)), (0, .inr (.inl (some 69))), (1, .inl (v1))]) (st' := []) (M' := (am_up M6 69 10 (M6 69 10))) rfl trivial ?_
      refine am_W_sub [1, 2, 0] rfl ?_
      exact hk12 v1 (v2 + 1) (am_up M6 69 10 (M6 69 10)) h
    · have h := hf q
      refine am_Wrun 2 (ps := []) (pc' := 73) (lv' := [(0, .inr (.inl (some 69))), (1, .inl (v1)), (2, .inl (v2))]) (st' := [.inl (M6 69 10), .inr (.inl (some 69))]) (M' := M6) rfl trivial ?_
      obtain ⟨b0, ht, hf⟩ := h
      refine am_Wbr (P := [am_rg (M6 69 10)]) (c := 0 ≤ (M6 69 10)) (t := 80) (f := 76) (st' := [.inr (.inl (some 69))]) rfl rfl ⟨b0, trivial⟩ rfl (fun q => ?_) (fun q => ?_)
      · have h := ht q
        refine am_Wrun 5 (ps := []) (pc' := 12) (lv' := [(2, .inl (v2 + 1)), (0, .inr (.inl (some 69))), (1, .inl (v1))]) (st' := []) (M' := (am_up M6 69 10 (M6 69 10))) rfl trivial ?_
        refine am_W_sub [1, 2, 0] rfl ?_
        exact hk12 v1 (v2 + 1) (am_up M6 69 10 (M6 69 10)) h
      · have h := hf q
        refine am_Wrun 5 (ps := []) (pc' := 12) (lv' := [(2, .inl (v2 + 1)), (0, .inr (.inl (some 69))), (1, .inl (v1))]) (st' := []) (M' := (am_up M6 69 10 v2)) rfl trivial ?_
        refine am_W_sub [1, 2, 0] rfl ?_
        exact hk12 v1 (v2 + 1) (am_up M6 69 10 v2) h
set_option maxRecDepth 20000 in
theorem tj_X6_around_44 {Q : am_M → Prop} {QX : am_X} {k12 : Int → Int → am_M → Prop} (hk12 : ∀ (v1 : Int) (v2 : Int) (M : am_M), k12 v1 v2 M → am_W (am_CC 1) dt_X6_around 1 0 none (am_QV Q) QX (0, 12, [(0, .inr (.inl (some 69))), (1, .inl (v1)), (2, .inl (v2))], [], M)) (v1 : Int) (v2 : Int) (M : am_M) (h : wj_X6_around_44 Q k12 v1 v2 M) : am_W (am_CC 1) dt_X6_around 1 0 none (am_QV Q) QX (0, 44, [(0, .inr (.inl (some 69))), (1, .inl (v1)), (2, .inl (v2))], [.inr (.inl (some 69))], M) := by
  refine am_Wrun 2 (ps := []) (pc' := 48) (lv' := [(0, .inr (.inl (some 69))), (1, .inl (v1)), (2, .inl (v2))]) (st' := [.inl (M 69 9), .inr (.inl (some 69))]) (M' := M) rfl trivial ?_
  refine am_W_sub [0, 1, 2] rfl ?_
  exact tj_X6_around_48 hk12 v1 v2 (M 69 9) M h
set_option maxRecDepth 20000 in
theorem tw_X6_around_12 {Q : am_M → Prop} {QX : am_X} : ∀ (n : Nat) (v1 : Int) (v2 : Int) (M : am_M), wl_X6_around_12 Q n v1 v2 M → am_W (am_CC 1) dt_X6_around 1 0 none (am_QV Q) QX (0, 12, [(0, .inr (.inl (some 69))), (1, .inl (v1)), (2, .inl (v2))], [], M)
  | 0, _, _, _, h => h.elim
  | n + 1, v1, v2, M, h => by
    refine am_Wrun 5 (ps := [0 ≤ (0 : Int) ∧ (0 : Int) < 203]) (pc' := 19) (lv' := [(0, .inr (.inl (some 69))), (1, .inl (v1)), (2, .inl (v2))]) (st' := [.inl (M 70 0), .inl (v2)]) (M' := M) rfl ⟨⟨by decide, by decide⟩, trivial⟩ ?_
    obtain ⟨b0, b1, ht, hf⟩ := h
    refine am_Wbr (P := [am_rg v2, am_rg (M 70 0)]) (c := (M 70 0) ≤ v2) (t := 93) (f := 22) (st' := []) rfl rfl ⟨b0, b1, trivial⟩ rfl (fun q => ?_) (fun q => ?_)
    · have h := ht q
      exact am_Wretv rfl rfl h
    · have h := hf q
      refine am_Wrun 3 (ps := []) (pc' := 25) (lv' := [(0, .inr (.inl (some 69))), (1, .inl (v1)), (2, .inl (v2))]) (st' := [.inl (v2), .inr (.inl (some 69)), .inr (.inl (some 69))]) (M' := M) rfl trivial ?_
      refine am_WcallV (y := 123) (n := 2) (a := 69) (f := 28) (as := [.inl (v2)]) (st' := [.inr (.inl (some 69))]) rfl rfl rfl rfl rfl rfl rfl rfl rfl rfl (Nat.zero_le _) rfl (am_CC_le (Nat.le_of_ble_eq_true rfl) (tm_X6_isKept h)) (fun r M2 q => ?_) (fun _ _ q => q.elim)
      obtain ⟨x1, rfl, h⟩ := q
      obtain ⟨b0, ht, hf⟩ := h
      refine am_Wbr (P := [am_rg x1]) (c := x1 = 0) (t := 44) (f := 31) (st' := [.inr (.inl (some 69))]) rfl rfl ⟨b0, trivial⟩ rfl (fun q => ?_) (fun q => ?_)
      · have h := ht q
        refine am_W_sub [0, 1, 2] rfl ?_
        exact tj_X6_around_44 (tw_X6_around_12 n) v1 v2 M2 h
      · have h := hf q
        refine am_Wrun 2 (ps := []) (pc' := 33) (lv' := [(0, .inr (.inl (some 69))), (1, .inl (v1)), (2, .inl (v2))]) (st' := [.inl (v2), .inr (.inl (some 69)), .inr (.inl (some 69))]) (M' := M2) rfl trivial ?_
        refine am_WcallV (y := 115) (n := 2) (a := 69) (f := 36) (as := [.inl (v2)]) (st' := [.inr (.inl (some 69))]) rfl rfl rfl rfl rfl rfl rfl rfl rfl rfl (Nat.zero_le _) rfl (am_CC_le (Nat.le_of_ble_eq_true rfl) (tm_X6_time h)) (fun r M8 q => ?_) (fun _ _ q => q.elim)
        obtain ⟨x7, rfl, h⟩ := q
        refine am_Wrun 1 (ps := []) (pc' := 37) (lv' := [(0, .inr (.inl (some 69))), (1, .inl (v1)), (2, .inl (v2))]) (st' := [.inl (v1), .inl (x7), .inr (.inl (some 69))]) (M' := M8) rfl trivial ?_
        obtain ⟨b0, b1, ht, hf⟩ := h
        refine am_Wbr (P := [am_rg x7, am_rg v1]) (c := v1 ≤ x7) (t := 44) (f := 40) (st' := [.inr (.inl (some 69))]) rfl rfl ⟨b0, b1, trivial⟩ rfl (fun q => ?_) (fun q => ?_)
        · have h := ht q
          refine am_W_sub [0, 1, 2] rfl ?_
          exact tj_X6_around_44 (tw_X6_around_12 n) v1 v2 M8 h
        · have h := hf q
          refine am_Wrun 2 (ps := []) (pc' := 48) (lv' := [(0, .inr (.inl (some 69))), (1, .inl (v1)), (2, .inl (v2))]) (st' := [.inl (v2), .inr (.inl (some 69))]) (M' := M8) rfl trivial ?_
          refine am_W_sub [0, 1, 2] rfl ?_
          exact tj_X6_around_48 (tw_X6_around_12 n) v1 v2 v2 M8 h
set_option maxRecDepth 20000 in
theorem tm_X6_around {a0 : Int} {M : am_M} {Q : am_M → Prop} (h : wp_X6_around a0 M Q) : am_CC 2 125 [.inr (.inl (some 69)), .inl (a0)] M (am_QV Q) (fun _ _ => False) := by
  refine ⟨Nat.le_of_ble_eq_true rfl, ?_⟩
  show am_W (am_CC 1) dt_X6_around 1 0 none (am_QV Q) (am_qx 125 (fun _ _ => False)) (0, 0, [(0, .inr (.inl (some 69))), (1, .inl (a0))], [], M)
  refine am_Wrun 8 (ps := []) (pc' := 12) (lv' := [(2, .inl (0)), (0, .inr (.inl (some 69))), (1, .inl (a0))]) (st' := []) (M' := (am_up (am_up M 69 9 (-1)) 69 10 (-1))) rfl trivial ?_
  refine am_W_sub [1, 2, 0] rfl ?_
  obtain ⟨n12, h⟩ := h
  exact tw_X6_around_12 n12 a0 0 (am_up (am_up M 69 9 (-1)) 69 10 (-1)) h
abbrev dt_X6_isFirst : am_D := (tk_X6_isFirst, 6, 2, some .boolean, tb_hn 127)
def wp_X6_isFirst (a0 : Int) (M : am_M) (Q : Int → am_M → Prop) : Prop := (am_rg a0) ∧ (a0 = 0 → Q 1 M) ∧ (¬ a0 = 0 → wp_X6_time a0 M (fun x1 M2 => wp_X6_time (a0 - 1) M2 (fun x3 M4 => (am_rg (x1 - x3)) ∧ (am_rg (M4 70 5)) ∧ ((x1 - x3) ≤ (M4 70 5) → Q 0 M4) ∧ (¬ (x1 - x3) ≤ (M4 70 5) → Q 1 M4))))
set_option maxRecDepth 20000 in
theorem tm_X6_isFirst {a0 : Int} {M : am_M} {Q : Int → am_M → Prop} (h : wp_X6_isFirst a0 M Q) : am_CC 2 127 [.inr (.inl (some 69)), .inl (a0)] M (am_QI Q) (fun _ _ => False) := by
  refine ⟨Nat.le_of_ble_eq_true rfl, ?_⟩
  show am_W (am_CC 1) dt_X6_isFirst 1 0 none (am_QI Q) (am_qx 127 (fun _ _ => False)) (0, 0, [(0, .inr (.inl (some 69))), (1, .inl (a0))], [], M)
  refine am_Wrun 1 (ps := []) (pc' := 1) (lv' := [(0, .inr (.inl (some 69))), (1, .inl (a0))]) (st' := [.inl (a0)]) (M' := M) rfl trivial ?_
  obtain ⟨b0, ht, hf⟩ := h
  refine am_Wbr (P := [am_rg a0]) (c := a0 = 0) (t := 26) (f := 4) (st' := []) rfl rfl ⟨b0, trivial⟩ rfl (fun q => ?_) (fun q => ?_)
  · have h := ht q
    refine am_Wrun 2 (ps := []) (pc' := 31) (lv' := [(0, .inr (.inl (some 69))), (1, .inl (a0))]) (st' := [.inl (1)]) (M' := M) rfl trivial ?_
    exact am_Wretz rfl rfl (Or.inr rfl) h
  · have h := hf q
    refine am_Wrun 2 (ps := []) (pc' := 6) (lv' := [(0, .inr (.inl (some 69))), (1, .inl (a0))]) (st' := [.inl (a0), .inr (.inl (some 69))]) (M' := M) rfl trivial ?_
    refine am_WcallV (y := 115) (n := 2) (a := 69) (f := 9) (as := [.inl (a0)]) (st' := []) rfl rfl rfl rfl rfl rfl rfl rfl rfl rfl (Nat.zero_le _) rfl (am_CC_le (Nat.le_of_ble_eq_true rfl) (tm_X6_time h)) (fun r M2 q => ?_) (fun _ _ q => q.elim)
    obtain ⟨x1, rfl, h⟩ := q
    refine am_Wrun 4 (ps := []) (pc' := 13) (lv' := [(0, .inr (.inl (some 69))), (1, .inl (a0))]) (st' := [.inl (a0 - 1), .inr (.inl (some 69)), .inl (x1)]) (M' := M2) rfl trivial ?_
    refine am_WcallV (y := 115) (n := 2) (a := 69) (f := 16) (as := [.inl (a0 - 1)]) (st' := [.inl (x1)]) rfl rfl rfl rfl rfl rfl rfl rfl rfl rfl (Nat.zero_le _) rfl (am_CC_le (Nat.le_of_ble_eq_true rfl) (tm_X6_time h)) (fun r M4 q => ?_) (fun _ _ q => q.elim)
    obtain ⟨x3, rfl, h⟩ := q
    refine am_Wrun 5 (ps := [0 ≤ (5 : Int) ∧ (5 : Int) < 203]) (pc' := 23) (lv' := [(0, .inr (.inl (some 69))), (1, .inl (a0))]) (st' := [.inl (M4 70 5), .inl (x1 - x3)]) (M' := M4) rfl ⟨⟨by decide, by decide⟩, trivial⟩ ?_
    obtain ⟨b0, b1, ht, hf⟩ := h
    refine am_Wbr (P := [am_rg (x1 - x3), am_rg (M4 70 5)]) (c := (x1 - x3) ≤ (M4 70 5)) (t := 30) (f := 26) (st' := []) rfl rfl ⟨b0, b1, trivial⟩ rfl (fun q => ?_) (fun q => ?_)
    · have h := ht q
      refine am_Wrun 1 (ps := []) (pc' := 31) (lv' := [(0, .inr (.inl (some 69))), (1, .inl (a0))]) (st' := [.inl (0)]) (M' := M4) rfl trivial ?_
      exact am_Wretz rfl rfl (Or.inl rfl) h
    · have h := hf q
      refine am_Wrun 2 (ps := []) (pc' := 31) (lv' := [(0, .inr (.inl (some 69))), (1, .inl (a0))]) (st' := [.inl (1)]) (M' := M4) rfl trivial ?_
      exact am_Wretz rfl rfl (Or.inr rfl) h
abbrev dt_X6_stretchOf : am_D := (tk_X6_stretchOf, 6, 4, some .int, tb_hn 126)
def wl_X6_stretchOf_4 (Q : Int → am_M → Prop) : Nat → Int → Int → Int → am_M → Prop
  | 0, _, _, _, _ => False
  | n + 1, v1, v2, v3, M => (am_rg v3) ∧ (am_rg v1) ∧ (v1 < v3 → Q v2 M) ∧ (¬ v1 < v3 → wp_X6_isFirst v3 M (fun x1 M2 => (am_rg x1) ∧ (x1 = 0 → wl_X6_stretchOf_4 Q n v1 (v2 + 0) (v3 + 1) M2) ∧ (¬ x1 = 0 → wl_X6_stretchOf_4 Q n v1 (v2 + 1) (v3 + 1) M2)))
def wp_X6_stretchOf (a0 : Int) (M : am_M) (Q : Int → am_M → Prop) : Prop := ∃ e4, wl_X6_stretchOf_4 Q e4 a0 (-1) 0 M
set_option maxRecDepth 20000 in
theorem tw_X6_stretchOf_4 {Q : Int → am_M → Prop} {QX : am_X} : ∀ (n : Nat) (v1 : Int) (v2 : Int) (v3 : Int) (M : am_M), wl_X6_stretchOf_4 Q n v1 v2 v3 M → am_W (am_CC 2) dt_X6_stretchOf 2 0 none (am_QI Q) QX (0, 4, [(0, .inr (.inl (some 69))), (1, .inl (v1)), (2, .inl (v2)), (3, .inl (v3))], [], M)
  | 0, _, _, _, _, h => h.elim
  | n + 1, v1, v2, v3, M, h => by
    refine am_Wrun 2 (ps := []) (pc' := 6) (lv' := [(0, .inr (.inl (some 69))), (1, .inl (v1)), (2, .inl (v2)), (3, .inl (v3))]) (st' := [.inl (v1), .inl (v3)]) (M' := M) rfl trivial ?_
    obtain ⟨b0, b1, ht, hf⟩ := h
    refine am_Wbr (P := [am_rg v3, am_rg v1]) (c := v1 < v3) (t := 31) (f := 9) (st' := []) rfl rfl ⟨b0, b1, trivial⟩ rfl (fun q => ?_) (fun q => ?_)
    · have h := ht q
      refine am_Wrun 1 (ps := []) (pc' := 32) (lv' := [(0, .inr (.inl (some 69))), (1, .inl (v1)), (2, .inl (v2)), (3, .inl (v3))]) (st' := [.inl (v2)]) (M' := M) rfl trivial ?_
      exact am_Wreti rfl rfl h
    · have h := hf q
      refine am_Wrun 3 (ps := []) (pc' := 12) (lv' := [(0, .inr (.inl (some 69))), (1, .inl (v1)), (2, .inl (v2)), (3, .inl (v3))]) (st' := [.inl (v3), .inr (.inl (some 69)), .inl (v2)]) (M' := M) rfl trivial ?_
      refine am_WcallV (y := 127) (n := 2) (a := 69) (f := 15) (as := [.inl (v3)]) (st' := [.inl (v2)]) rfl rfl rfl rfl rfl rfl rfl rfl rfl rfl (Nat.zero_le _) rfl (am_CC_le (Nat.le_of_ble_eq_true rfl) (tm_X6_isFirst h)) (fun r M2 q => ?_) (fun _ _ q => q.elim)
      obtain ⟨x1, rfl, h⟩ := q
      obtain ⟨b0, ht, hf⟩ := h
      refine am_Wbr (P := [am_rg x1]) (c := x1 = 0) (t := 22) (f := 18) (st' := [.inl (v2)]) rfl rfl ⟨b0, trivial⟩ rfl (fun q => ?_) (fun q => ?_)
      · have h := ht q
        refine am_Wrun 5 (ps := []) (pc' := 4) (lv' := [(3, .inl (v3 + 1)), (2, .inl (v2 + 0)), (0, .inr (.inl (some 69))), (1, .inl (v1))]) (st' := []) (M' := M2) rfl trivial ?_
        refine am_W_sub [2, 3, 1, 0] rfl ?_
        exact tw_X6_stretchOf_4 n v1 (v2 + 0) (v3 + 1) M2 h
      · have h := hf q
        refine am_Wrun 6 (ps := []) (pc' := 4) (lv' := [(3, .inl (v3 + 1)), (2, .inl (v2 + 1)), (0, .inr (.inl (some 69))), (1, .inl (v1))]) (st' := []) (M' := M2) rfl trivial ?_
        refine am_W_sub [2, 3, 1, 0] rfl ?_
        exact tw_X6_stretchOf_4 n v1 (v2 + 1) (v3 + 1) M2 h
set_option maxRecDepth 20000 in
theorem tm_X6_stretchOf {a0 : Int} {M : am_M} {Q : Int → am_M → Prop} (h : wp_X6_stretchOf a0 M Q) : am_CC 3 126 [.inr (.inl (some 69)), .inl (a0)] M (am_QI Q) (fun _ _ => False) := by
  refine ⟨Nat.le_of_ble_eq_true rfl, ?_⟩
  show am_W (am_CC 2) dt_X6_stretchOf 2 0 none (am_QI Q) (am_qx 126 (fun _ _ => False)) (0, 0, [(0, .inr (.inl (some 69))), (1, .inl (a0))], [], M)
  refine am_Wrun 4 (ps := []) (pc' := 4) (lv' := [(3, .inl (0)), (2, .inl ((-1))), (0, .inr (.inl (some 69))), (1, .inl (a0))]) (st' := []) (M' := M) rfl trivial ?_
  refine am_W_sub [2, 3, 1, 0] rfl ?_
  obtain ⟨n4, h⟩ := h
  exact tw_X6_stretchOf_4 n4 a0 (-1) 0 M h
abbrev dt_X6_neighbors : am_D := (tk_X6_neighbors, 6, 2, none, tb_hn 124)
def wj_X6_neighbors_41 (Q : am_M → Prop) (v1 : Int) (s0 : Int) (M : am_M) : Prop := (am_rg ((am_up M 69 9 s0) 69 10)) ∧ (((am_up M 69 9 s0) 69 10) < 0 → Q (am_up (am_up M 69 9 s0) 69 10 (-1))) ∧ (¬ ((am_up M 69 9 s0) 69 10) < 0 → wp_X6_stretchOf ((am_up M 69 9 s0) 69 10) (am_up M 69 9 s0) (fun x4 M5 => wp_X6_stretchOf v1 M5 (fun x6 M7 => (am_rg x4) ∧ (am_rg x6) ∧ (¬ x4 = x6 → Q (am_up M7 69 10 (-1))) ∧ (¬ (¬ x4 = x6) → Q (am_up M7 69 10 (M7 69 10))))))
def wj_X6_neighbors_40 (Q : am_M → Prop) (v1 : Int) (M : am_M) : Prop := wj_X6_neighbors_41 Q v1 (-1) M
def wp_X6_neighbors (a0 : Int) (M : am_M) (Q : am_M → Prop) : Prop := wp_X6_time a0 M (fun x1 M2 => wp_X6_around x1 M2 (fun M3 => (am_rg (M3 69 9)) ∧ ((M3 69 9) < 0 → wj_X6_neighbors_40 Q a0 M3) ∧ (¬ (M3 69 9) < 0 → wp_X6_stretchOf (M3 69 9) M3 (fun x8 M9 => wp_X6_stretchOf a0 M9 (fun x10 M11 => (am_rg x8) ∧ (am_rg x10) ∧ (¬ x8 = x10 → wj_X6_neighbors_40 Q a0 M11) ∧ (¬ (¬ x8 = x10) → wj_X6_neighbors_41 Q a0 (M11 69 9) M11))))))
set_option maxRecDepth 20000 in
theorem tj_X6_neighbors_41 {Q : am_M → Prop} {QX : am_X} (v1 : Int) (s0 : Int) (M : am_M) (h : wj_X6_neighbors_41 Q v1 s0 M) : am_W (am_CC 3) dt_X6_neighbors 3 0 none (am_QV Q) QX (0, 41, [(0, .inr (.inl (some 69))), (1, .inl (v1))], [.inl (s0), .inr (.inl (some 69))], M) := by
  refine am_Wrun 4 (ps := []) (pc' := 49) (lv' := [(0, .inr (.inl (some 69))), (1, .inl (v1))]) (st' := [.inl ((am_up M 69 9 s0) 69 10), .inr (.inl (some 69))]) (M' := (am_up M 69 9 s0)) rfl trivial ?_
  obtain ⟨b0, ht, hf⟩ := h
  refine am_Wbr (P := [am_rg ((am_up M 69 9 s0) 69 10)]) (c := ((am_up M 69 9 s0) 69 10) < 0) (t := 75) (f := 52) (st' := [.inr (.inl (some 69))]) rfl rfl ⟨b0, trivial⟩ rfl (fun q => ?_) (fun q => ?_)
  · have h := ht q
    refine am_Wrun 2 (ps := []) (pc' := 79) (lv' := [(0, .inr (.inl (some 69))), (1, .inl (v1))]) (st' := []) (M' := (am_up (am_up M 69 9 s0) 69 10 (-1))) rfl trivial ?_
    exact am_Wretv rfl rfl h
  · have h := hf q
    refine am_Wrun 3 (ps := []) (pc' := 57) (lv' := [(0, .inr (.inl (some 69))), (1, .inl (v1))]) (st' := [.inl ((am_up M 69 9 s0) 69 10), .inr (.inl (some 69)), .inr (.inl (some 69))]) (M' := (am_up M 69 9 s0)) rfl trivial ?_
    refine am_WcallV (y := 126) (n := 2) (a := 69) (f := 60) (as := [.inl ((am_up M 69 9 s0) 69 10)]) (st' := [.inr (.inl (some 69))]) rfl rfl rfl rfl rfl rfl rfl rfl rfl rfl (Nat.zero_le _) rfl (am_CC_le (Nat.le_of_ble_eq_true rfl) (tm_X6_stretchOf h)) (fun r M5 q => ?_) (fun _ _ q => q.elim)
    obtain ⟨x4, rfl, h⟩ := q
    refine am_Wrun 2 (ps := []) (pc' := 62) (lv' := [(0, .inr (.inl (some 69))), (1, .inl (v1))]) (st' := [.inl (v1), .inr (.inl (some 69)), .inl (x4), .inr (.inl (some 69))]) (M' := M5) rfl trivial ?_
    refine am_WcallV (y := 126) (n := 2) (a := 69) (f := 65) (as := [.inl (v1)]) (st' := [.inl (x4), .inr (.inl (some 69))]) rfl rfl rfl rfl rfl rfl rfl rfl rfl rfl (Nat.zero_le _) rfl (am_CC_le (Nat.le_of_ble_eq_true rfl) (tm_X6_stretchOf h)) (fun r M7 q => ?_) (fun _ _ q => q.elim)
    obtain ⟨x6, rfl, h⟩ := q
    obtain ⟨b0, b1, ht, hf⟩ := h
    refine am_Wbr (P := [am_rg x4, am_rg x6]) (c := ¬ x4 = x6) (t := 75) (f := 68) (st' := [.inr (.inl (some 69))]) rfl rfl ⟨b0, b1, trivial⟩ rfl (fun q => ?_) (fun q => ?_)
    · have h := ht q
      refine am_Wrun 2 (ps := []) (pc' := 79) (lv' := [(0, .inr (.inl (some 69))), (1, .inl (v1))]) (st' := []) (M' := (am_up M7 69 10 (-1))) rfl trivial ?_
      exact am_Wretv rfl rfl h
    · have h := hf q
      refine am_Wrun 4 (ps := []) (pc' := 79) (lv' := [(0, .inr (.inl (some 69))), (1, .inl (v1))]) (st' := []) (M' := (am_up M7 69 10 (M7 69 10))) rfl trivial ?_
      exact am_Wretv rfl rfl h
set_option maxRecDepth 20000 in
theorem tj_X6_neighbors_40 {Q : am_M → Prop} {QX : am_X} (v1 : Int) (M : am_M) (h : wj_X6_neighbors_40 Q v1 M) : am_W (am_CC 3) dt_X6_neighbors 3 0 none (am_QV Q) QX (0, 40, [(0, .inr (.inl (some 69))), (1, .inl (v1))], [.inr (.inl (some 69))], M) := by
  refine am_Wrun 1 (ps := []) (pc' := 41) (lv' := [(0, .inr (.inl (some 69))), (1, .inl (v1))]) (st' := [.inl ((-1)), .inr (.inl (some 69))]) (M' := M) rfl trivial ?_
  refine am_W_sub [0, 1] rfl ?_
  exact tj_X6_neighbors_41 v1 (-1) M h
set_option maxRecDepth 20000 in
theorem tm_X6_neighbors {a0 : Int} {M : am_M} {Q : am_M → Prop} (h : wp_X6_neighbors a0 M Q) : am_CC 4 124 [.inr (.inl (some 69)), .inl (a0)] M (am_QV Q) (fun _ _ => False) := by
  refine ⟨Nat.le_of_ble_eq_true rfl, ?_⟩
  show am_W (am_CC 3) dt_X6_neighbors 3 0 none (am_QV Q) (am_qx 124 (fun _ _ => False)) (0, 0, [(0, .inr (.inl (some 69))), (1, .inl (a0))], [], M)
  refine am_Wrun 3 (ps := []) (pc' := 3) (lv' := [(0, .inr (.inl (some 69))), (1, .inl (a0))]) (st' := [.inl (a0), .inr (.inl (some 69)), .inr (.inl (some 69))]) (M' := M) rfl trivial ?_
  refine am_WcallV (y := 115) (n := 2) (a := 69) (f := 6) (as := [.inl (a0)]) (st' := [.inr (.inl (some 69))]) rfl rfl rfl rfl rfl rfl rfl rfl rfl rfl (Nat.zero_le _) rfl (am_CC_le (Nat.le_of_ble_eq_true rfl) (tm_X6_time h)) (fun r M2 q => ?_) (fun _ _ q => q.elim)
  obtain ⟨x1, rfl, h⟩ := q
  refine am_WcallV (y := 125) (n := 2) (a := 69) (f := 9) (as := [.inl (x1)]) (st' := []) rfl rfl rfl rfl rfl rfl rfl rfl rfl rfl (Nat.zero_le _) rfl (am_CC_le (Nat.le_of_ble_eq_true rfl) (tm_X6_around h)) (fun r M3 q => ?_) (fun _ _ q => q.elim)
  obtain ⟨rfl, h⟩ := q
  refine am_Wrun 3 (ps := []) (pc' := 14) (lv' := [(0, .inr (.inl (some 69))), (1, .inl (a0))]) (st' := [.inl (M3 69 9), .inr (.inl (some 69))]) (M' := M3) rfl trivial ?_
  obtain ⟨b0, ht, hf⟩ := h
  refine am_Wbr (P := [am_rg (M3 69 9)]) (c := (M3 69 9) < 0) (t := 40) (f := 17) (st' := [.inr (.inl (some 69))]) rfl rfl ⟨b0, trivial⟩ rfl (fun q => ?_) (fun q => ?_)
  · have h := ht q
    refine am_W_sub [0, 1] rfl ?_
    exact tj_X6_neighbors_40 a0 M3 h
  · have h := hf q
    refine am_Wrun 3 (ps := []) (pc' := 22) (lv' := [(0, .inr (.inl (some 69))), (1, .inl (a0))]) (st' := [.inl (M3 69 9), .inr (.inl (some 69)), .inr (.inl (some 69))]) (M' := M3) rfl trivial ?_
    refine am_WcallV (y := 126) (n := 2) (a := 69) (f := 25) (as := [.inl (M3 69 9)]) (st' := [.inr (.inl (some 69))]) rfl rfl rfl rfl rfl rfl rfl rfl rfl rfl (Nat.zero_le _) rfl (am_CC_le (Nat.le_of_ble_eq_true rfl) (tm_X6_stretchOf h)) (fun r M9 q => ?_) (fun _ _ q => q.elim)
    obtain ⟨x8, rfl, h⟩ := q
    refine am_Wrun 2 (ps := []) (pc' := 27) (lv' := [(0, .inr (.inl (some 69))), (1, .inl (a0))]) (st' := [.inl (a0), .inr (.inl (some 69)), .inl (x8), .inr (.inl (some 69))]) (M' := M9) rfl trivial ?_
    refine am_WcallV (y := 126) (n := 2) (a := 69) (f := 30) (as := [.inl (a0)]) (st' := [.inl (x8), .inr (.inl (some 69))]) rfl rfl rfl rfl rfl rfl rfl rfl rfl rfl (Nat.zero_le _) rfl (am_CC_le (Nat.le_of_ble_eq_true rfl) (tm_X6_stretchOf h)) (fun r M11 q => ?_) (fun _ _ q => q.elim)
    obtain ⟨x10, rfl, h⟩ := q
    obtain ⟨b0, b1, ht, hf⟩ := h
    refine am_Wbr (P := [am_rg x8, am_rg x10]) (c := ¬ x8 = x10) (t := 40) (f := 33) (st' := [.inr (.inl (some 69))]) rfl rfl ⟨b0, b1, trivial⟩ rfl (fun q => ?_) (fun q => ?_)
    · have h := ht q
      refine am_W_sub [0, 1] rfl ?_
      exact tj_X6_neighbors_40 a0 M11 h
    · have h := hf q
      refine am_Wrun 3 (ps := []) (pc' := 41) (lv' := [(0, .inr (.inl (some 69))), (1, .inl (a0))]) (st' := [.inl (M11 69 9), .inr (.inl (some 69))]) (M' := M11) rfl trivial ?_
      refine am_W_sub [0, 1] rfl ?_
      exact tj_X6_neighbors_41 a0 (M11 69 9) M11 h
abbrev dt_X6_below : am_D := (tk_X6_below, 6, 3, some .int, tb_hn 131)
def wp_X6_below (a0 : Int) (a1 : Int) (M : am_M) (Q : Int → am_M → Prop) : Prop := (am_rg (M 70 6)) ∧ (¬ (M 70 6) = 1 → wp_X6_time a1 M (fun x1 M2 => wp_X6_time a0 M2 (fun x3 M4 => Q (x1 - x3) M4))) ∧ (¬ (¬ (M 70 6) = 1) → Q 1 M)
set_option maxRecDepth 20000 in
theorem tm_X6_below {a0 a1 : Int} {M : am_M} {Q : Int → am_M → Prop} (h : wp_X6_below a0 a1 M Q) : am_CC 2 131 [.inr (.inl (some 69)), .inl (a0), .inl (a1)] M (am_QI Q) (fun _ _ => False) := by
  refine ⟨Nat.le_of_ble_eq_true rfl, ?_⟩
  show am_W (am_CC 1) dt_X6_below 1 0 none (am_QI Q) (am_qx 131 (fun _ _ => False)) (0, 0, [(0, .inr (.inl (some 69))), (1, .inl (a0)), (2, .inl (a1))], [], M)
  refine am_Wrun 5 (ps := [-128 ≤ (6 : Int) ∧ (6 : Int) ≤ 127, 0 ≤ (6 : Int) ∧ (6 : Int) < 203]) (pc' := 8) (lv' := [(0, .inr (.inl (some 69))), (1, .inl (a0)), (2, .inl (a1))]) (st' := [.inl (1), .inl (M 70 6)]) (M' := M) rfl ⟨⟨by decide, by decide⟩, ⟨by decide, by decide⟩, trivial⟩ ?_
  obtain ⟨b0, ht, hf⟩ := h
  refine am_Wbr (P := [am_rg (M 70 6), am_rg 1]) (c := ¬ (M 70 6) = 1) (t := 15) (f := 11) (st' := []) rfl rfl ⟨b0, (am_rgd rfl), trivial⟩ rfl (fun q => ?_) (fun q => ?_)
  · have h := ht q
    refine am_Wrun 2 (ps := []) (pc' := 17) (lv' := [(0, .inr (.inl (some 69))), (1, .inl (a0)), (2, .inl (a1))]) (st' := [.inl (a1), .inr (.inl (some 69))]) (M' := M) rfl trivial ?_
    refine am_WcallV (y := 115) (n := 2) (a := 69) (f := 20) (as := [.inl (a1)]) (st' := []) rfl rfl rfl rfl rfl rfl rfl rfl rfl rfl (Nat.zero_le _) rfl (am_CC_le (Nat.le_of_ble_eq_true rfl) (tm_X6_time h)) (fun r M2 q => ?_) (fun _ _ q => q.elim)
    obtain ⟨x1, rfl, h⟩ := q
    refine am_Wrun 2 (ps := []) (pc' := 22) (lv' := [(0, .inr (.inl (some 69))), (1, .inl (a0)), (2, .inl (a1))]) (st' := [.inl (a0), .inr (.inl (some 69)), .inl (x1)]) (M' := M2) rfl trivial ?_
    refine am_WcallV (y := 115) (n := 2) (a := 69) (f := 25) (as := [.inl (a0)]) (st' := [.inl (x1)]) rfl rfl rfl rfl rfl rfl rfl rfl rfl rfl (Nat.zero_le _) rfl (am_CC_le (Nat.le_of_ble_eq_true rfl) (tm_X6_time h)) (fun r M4 q => ?_) (fun _ _ q => q.elim)
    obtain ⟨x3, rfl, h⟩ := q
    refine am_Wrun 1 (ps := []) (pc' := 26) (lv' := [(0, .inr (.inl (some 69))), (1, .inl (a0)), (2, .inl (a1))]) (st' := [.inl (x1 - x3)]) (M' := M4) rfl trivial ?_
    exact am_Wreti rfl rfl h
  · have h := hf q
    refine am_Wrun 2 (ps := []) (pc' := 26) (lv' := [(0, .inr (.inl (some 69))), (1, .inl (a0)), (2, .inl (a1))]) (st' := [.inl (1)]) (M' := M) rfl trivial ?_
    exact am_Wreti rfl rfl h
abbrev dt_X6_above : am_D := (tk_X6_above, 6, 4, some .int, tb_hn 132)
def wp_X6_above (a0 : Int) (a1 : Int) (a2 : Int) (M : am_M) (Q : Int → am_M → Prop) : Prop := (am_rg (M 70 6)) ∧ (¬ (M 70 6) = 1 → wp_X6_value a0 M (fun x1 M2 => wp_X6_time a1 M2 (fun x3 M4 => wp_X6_time a0 M4 (fun x5 M6 => wp_X6_value a1 M6 (fun x7 M8 => wp_X6_value a0 M8 (fun x9 M10 => wp_X6_time a0 M10 (fun x11 M12 => Q ((x1 * (x3 - x5)) + ((x7 - x9) * (a2 - x11))) M12))))))) ∧ (¬ (¬ (M 70 6) = 1) → wp_X6_value a0 M (fun x13 M14 => Q x13 M14))
set_option maxRecDepth 20000 in
theorem tm_X6_above {a0 a1 a2 : Int} {M : am_M} {Q : Int → am_M → Prop} (h : wp_X6_above a0 a1 a2 M Q) : am_CC 2 132 [.inr (.inl (some 69)), .inl (a0), .inl (a1), .inl (a2)] M (am_QI Q) (fun _ _ => False) := by
  refine ⟨Nat.le_of_ble_eq_true rfl, ?_⟩
  show am_W (am_CC 1) dt_X6_above 1 0 none (am_QI Q) (am_qx 132 (fun _ _ => False)) (0, 0, [(0, .inr (.inl (some 69))), (1, .inl (a0)), (2, .inl (a1)), (3, .inl (a2))], [], M)
  refine am_Wrun 5 (ps := [-128 ≤ (6 : Int) ∧ (6 : Int) ≤ 127, 0 ≤ (6 : Int) ∧ (6 : Int) < 203]) (pc' := 8) (lv' := [(0, .inr (.inl (some 69))), (1, .inl (a0)), (2, .inl (a1)), (3, .inl (a2))]) (st' := [.inl (1), .inl (M 70 6)]) (M' := M) rfl ⟨⟨by decide, by decide⟩, ⟨by decide, by decide⟩, trivial⟩ ?_
  obtain ⟨b0, ht, hf⟩ := h
  refine am_Wbr (P := [am_rg (M 70 6), am_rg 1]) (c := ¬ (M 70 6) = 1) (t := 19) (f := 11) (st' := []) rfl rfl ⟨b0, (am_rgd rfl), trivial⟩ rfl (fun q => ?_) (fun q => ?_)
  · have h := ht q
    refine am_Wrun 2 (ps := []) (pc' := 21) (lv' := [(0, .inr (.inl (some 69))), (1, .inl (a0)), (2, .inl (a1)), (3, .inl (a2))]) (st' := [.inl (a0), .inr (.inl (some 69))]) (M' := M) rfl trivial ?_
    refine am_WcallV (y := 120) (n := 2) (a := 69) (f := 24) (as := [.inl (a0)]) (st' := []) rfl rfl rfl rfl rfl rfl rfl rfl rfl rfl (Nat.zero_le _) rfl (am_CC_le (Nat.le_of_ble_eq_true rfl) (tm_X6_value h)) (fun r M2 q => ?_) (fun _ _ q => q.elim)
    obtain ⟨x1, rfl, h⟩ := q
    refine am_Wrun 2 (ps := []) (pc' := 26) (lv' := [(0, .inr (.inl (some 69))), (1, .inl (a0)), (2, .inl (a1)), (3, .inl (a2))]) (st' := [.inl (a1), .inr (.inl (some 69)), .inl (x1)]) (M' := M2) rfl trivial ?_
    refine am_WcallV (y := 115) (n := 2) (a := 69) (f := 29) (as := [.inl (a1)]) (st' := [.inl (x1)]) rfl rfl rfl rfl rfl rfl rfl rfl rfl rfl (Nat.zero_le _) rfl (am_CC_le (Nat.le_of_ble_eq_true rfl) (tm_X6_time h)) (fun r M4 q => ?_) (fun _ _ q => q.elim)
    obtain ⟨x3, rfl, h⟩ := q
    refine am_Wrun 2 (ps := []) (pc' := 31) (lv' := [(0, .inr (.inl (some 69))), (1, .inl (a0)), (2, .inl (a1)), (3, .inl (a2))]) (st' := [.inl (a0), .inr (.inl (some 69)), .inl (x3), .inl (x1)]) (M' := M4) rfl trivial ?_
    refine am_WcallV (y := 115) (n := 2) (a := 69) (f := 34) (as := [.inl (a0)]) (st' := [.inl (x3), .inl (x1)]) rfl rfl rfl rfl rfl rfl rfl rfl rfl rfl (Nat.zero_le _) rfl (am_CC_le (Nat.le_of_ble_eq_true rfl) (tm_X6_time h)) (fun r M6 q => ?_) (fun _ _ q => q.elim)
    obtain ⟨x5, rfl, h⟩ := q
    refine am_Wrun 4 (ps := []) (pc' := 38) (lv' := [(0, .inr (.inl (some 69))), (1, .inl (a0)), (2, .inl (a1)), (3, .inl (a2))]) (st' := [.inl (a1), .inr (.inl (some 69)), .inl (x1 * (x3 - x5))]) (M' := M6) rfl trivial ?_
    refine am_WcallV (y := 120) (n := 2) (a := 69) (f := 41) (as := [.inl (a1)]) (st' := [.inl (x1 * (x3 - x5))]) rfl rfl rfl rfl rfl rfl rfl rfl rfl rfl (Nat.zero_le _) rfl (am_CC_le (Nat.le_of_ble_eq_true rfl) (tm_X6_value h)) (fun r M8 q => ?_) (fun _ _ q => q.elim)
    obtain ⟨x7, rfl, h⟩ := q
    refine am_Wrun 2 (ps := []) (pc' := 43) (lv' := [(0, .inr (.inl (some 69))), (1, .inl (a0)), (2, .inl (a1)), (3, .inl (a2))]) (st' := [.inl (a0), .inr (.inl (some 69)), .inl (x7), .inl (x1 * (x3 - x5))]) (M' := M8) rfl trivial ?_
    refine am_WcallV (y := 120) (n := 2) (a := 69) (f := 46) (as := [.inl (a0)]) (st' := [.inl (x7), .inl (x1 * (x3 - x5))]) rfl rfl rfl rfl rfl rfl rfl rfl rfl rfl (Nat.zero_le _) rfl (am_CC_le (Nat.le_of_ble_eq_true rfl) (tm_X6_value h)) (fun r M10 q => ?_) (fun _ _ q => q.elim)
    obtain ⟨x9, rfl, h⟩ := q
    refine am_Wrun 4 (ps := []) (pc' := 50) (lv' := [(0, .inr (.inl (some 69))), (1, .inl (a0)), (2, .inl (a1)), (3, .inl (a2))]) (st' := [.inl (a0), .inr (.inl (some 69)), .inl (a2), .inl (x7 - x9), .inl (x1 * (x3 - x5))]) (M' := M10) rfl trivial ?_
    refine am_WcallV (y := 115) (n := 2) (a := 69) (f := 53) (as := [.inl (a0)]) (st' := [.inl (a2), .inl (x7 - x9), .inl (x1 * (x3 - x5))]) rfl rfl rfl rfl rfl rfl rfl rfl rfl rfl (Nat.zero_le _) rfl (am_CC_le (Nat.le_of_ble_eq_true rfl) (tm_X6_time h)) (fun r M12 q => ?_) (fun _ _ q => q.elim)
    obtain ⟨x11, rfl, h⟩ := q
    refine am_Wrun 3 (ps := []) (pc' := 56) (lv' := [(0, .inr (.inl (some 69))), (1, .inl (a0)), (2, .inl (a1)), (3, .inl (a2))]) (st' := [.inl ((x1 * (x3 - x5)) + ((x7 - x9) * (a2 - x11)))]) (M' := M12) rfl trivial ?_
    exact am_Wreti rfl rfl h
  · have h := hf q
    refine am_Wrun 2 (ps := []) (pc' := 13) (lv' := [(0, .inr (.inl (some 69))), (1, .inl (a0)), (2, .inl (a1)), (3, .inl (a2))]) (st' := [.inl (a0), .inr (.inl (some 69))]) (M' := M) rfl trivial ?_
    refine am_WcallV (y := 120) (n := 2) (a := 69) (f := 16) (as := [.inl (a0)]) (st' := []) rfl rfl rfl rfl rfl rfl rfl rfl rfl rfl (Nat.zero_le _) rfl (am_CC_le (Nat.le_of_ble_eq_true rfl) (tm_X6_value h)) (fun r M14 q => ?_) (fun _ _ q => q.elim)
    obtain ⟨x13, rfl, h⟩ := q
    refine am_Wrun 1 (ps := []) (pc' := 56) (lv' := [(0, .inr (.inl (some 69))), (1, .inl (a0)), (2, .inl (a1)), (3, .inl (a2))]) (st' := [.inl (x13)]) (M' := M14) rfl trivial ?_
    exact am_Wreti rfl rfl h
abbrev dt_X6_size : am_D := (tk_X6_size, 6, 1, some .int, tb_hn 133)
def wp_X6_size (a0 : Int) (M : am_M) (Q : Int → am_M → Prop) : Prop := (am_rg a0) ∧ (0 ≤ a0 → Q a0 M) ∧ (¬ 0 ≤ a0 → Q (-a0) M)
set_option maxRecDepth 20000 in
theorem tm_X6_size {a0 : Int} {M : am_M} {Q : Int → am_M → Prop} (h : wp_X6_size a0 M Q) : am_CC 1 133 [.inl (a0)] M (am_QI Q) (fun _ _ => False) := by
  refine ⟨Nat.le_of_ble_eq_true rfl, ?_⟩
  show am_W (am_CC 0) dt_X6_size 0 0 none (am_QI Q) (am_qx 133 (fun _ _ => False)) (0, 0, [(0, .inl (a0))], [], M)
  refine am_Wrun 1 (ps := []) (pc' := 1) (lv' := [(0, .inl (a0))]) (st' := [.inl (a0)]) (M' := M) rfl trivial ?_
  obtain ⟨b0, ht, hf⟩ := h
  refine am_Wbr (P := [am_rg a0]) (c := 0 ≤ a0) (t := 9) (f := 4) (st' := []) rfl rfl ⟨b0, trivial⟩ rfl (fun q => ?_) (fun q => ?_)
  · have h := ht q
    refine am_Wrun 1 (ps := []) (pc' := 10) (lv' := [(0, .inl (a0))]) (st' := [.inl (a0)]) (M' := M) rfl trivial ?_
    exact am_Wreti rfl rfl h
  · have h := hf q
    refine am_Wrun 3 (ps := []) (pc' := 10) (lv' := [(0, .inl (a0))]) (st' := [.inl (-a0)]) (M' := M) rfl trivial ?_
    exact am_Wreti rfl rfl h
abbrev dt_X6_off : am_D := (tk_X6_off, 6, 5, some .int, tb_hn 130)
def wp_X6_off (a0 : Int) (a1 : Int) (a2 : Int) (a3 : Int) (M : am_M) (Q : Int → am_M → Prop) : Prop := wp_X6_below a0 a1 M (fun x1 M2 => wp_X6_above a0 a1 a2 M2 (fun x3 M4 => wp_X6_size ((a3 * x1) - x3) M4 (fun x5 M6 => Q x5 M6)))
set_option maxRecDepth 20000 in
theorem tm_X6_off {a0 a1 a2 a3 : Int} {M : am_M} {Q : Int → am_M → Prop} (h : wp_X6_off a0 a1 a2 a3 M Q) : am_CC 3 130 [.inr (.inl (some 69)), .inl (a0), .inl (a1), .inl (a2), .inl (a3)] M (am_QI Q) (fun _ _ => False) := by
  refine ⟨Nat.le_of_ble_eq_true rfl, ?_⟩
  show am_W (am_CC 2) dt_X6_off 2 0 none (am_QI Q) (am_qx 130 (fun _ _ => False)) (0, 0, [(0, .inr (.inl (some 69))), (1, .inl (a0)), (2, .inl (a1)), (3, .inl (a2)), (4, .inl (a3))], [], M)
  refine am_Wrun 4 (ps := []) (pc' := 5) (lv' := [(0, .inr (.inl (some 69))), (1, .inl (a0)), (2, .inl (a1)), (3, .inl (a2)), (4, .inl (a3))]) (st' := [.inl (a1), .inl (a0), .inr (.inl (some 69)), .inl (a3)]) (M' := M) rfl trivial ?_
  refine am_WcallV (y := 131) (n := 3) (a := 69) (f := 8) (as := [.inl (a0), .inl (a1)]) (st' := [.inl (a3)]) rfl rfl rfl rfl rfl rfl rfl rfl rfl rfl (Nat.zero_le _) rfl (am_CC_le (Nat.le_of_ble_eq_true rfl) (tm_X6_below h)) (fun r M2 q => ?_) (fun _ _ q => q.elim)
  obtain ⟨x1, rfl, h⟩ := q
  refine am_Wrun 5 (ps := []) (pc' := 13) (lv' := [(0, .inr (.inl (some 69))), (1, .inl (a0)), (2, .inl (a1)), (3, .inl (a2)), (4, .inl (a3))]) (st' := [.inl (a2), .inl (a1), .inl (a0), .inr (.inl (some 69)), .inl (a3 * x1)]) (M' := M2) rfl trivial ?_
  refine am_WcallV (y := 132) (n := 4) (a := 69) (f := 16) (as := [.inl (a0), .inl (a1), .inl (a2)]) (st' := [.inl (a3 * x1)]) rfl rfl rfl rfl rfl rfl rfl rfl rfl rfl (Nat.zero_le _) rfl (am_CC_le (Nat.le_of_ble_eq_true rfl) (tm_X6_above h)) (fun r M4 q => ?_) (fun _ _ q => q.elim)
  obtain ⟨x3, rfl, h⟩ := q
  refine am_Wrun 1 (ps := []) (pc' := 17) (lv' := [(0, .inr (.inl (some 69))), (1, .inl (a0)), (2, .inl (a1)), (3, .inl (a2)), (4, .inl (a3))]) (st' := [.inl ((a3 * x1) - x3)]) (M' := M4) rfl trivial ?_
  refine am_WcallS (y := 133) (n := 1) (f := 20) (co := 0) (as := [.inl ((a3 * x1) - x3)]) (st' := []) rfl rfl rfl rfl rfl rfl rfl rfl rfl (Nat.zero_le _) rfl (am_CC_le (Nat.le_of_ble_eq_true rfl) (tm_X6_size h)) (fun r M6 q => ?_) (fun _ _ q => q.elim)
  obtain ⟨x5, rfl, h⟩ := q
  exact am_Wreti rfl rfl h
abbrev dt_X6_withinMany : am_D := (tk_X6_withinMany, 6, 6, some .int, tb_hn 129)
def wl_X6_withinMany_8 (Q : Int → am_M → Prop) : Nat → Int → Int → Int → Int → Int → am_M → Prop
  | 0, _, _, _, _, _, _ => False
  | n + 1, v1, v2, v3, v4, v5, M => (am_rg v5) ∧ (am_rg v2) ∧ (v2 ≤ v5 → Q v4 M) ∧ (¬ v2 ≤ v5 → wp_X6_time v5 M (fun x1 M2 => wp_X6_value v5 M2 (fun x3 M4 => wp_X6_off v1 v2 x1 x3 M4 (fun x5 M6 => wp_X6_below v1 v2 M6 (fun x7 M8 => (am_rg x5) ∧ (am_rg (v3 * x7)) ∧ ((v3 * x7) < x5 → wl_X6_withinMany_8 Q n v1 v2 v3 (v4 + 0) (v5 + 1) M8) ∧ (¬ (v3 * x7) < x5 → wl_X6_withinMany_8 Q n v1 v2 v3 (v4 + 1) (v5 + 1) M8))))))
def wp_X6_withinMany (a0 : Int) (a1 : Int) (a2 : Int) (M : am_M) (Q : Int → am_M → Prop) : Prop := ∃ e8, wl_X6_withinMany_8 Q e8 a0 a1 a2 0 (a0 + 1) M
set_option maxRecDepth 20000 in
theorem tw_X6_withinMany_8 {Q : Int → am_M → Prop} {QX : am_X} : ∀ (n : Nat) (v1 : Int) (v2 : Int) (v3 : Int) (v4 : Int) (v5 : Int) (M : am_M), wl_X6_withinMany_8 Q n v1 v2 v3 v4 v5 M → am_W (am_CC 3) dt_X6_withinMany 3 0 none (am_QI Q) QX (0, 8, [(0, .inr (.inl (some 69))), (1, .inl (v1)), (2, .inl (v2)), (3, .inl (v3)), (4, .inl (v4)), (5, .inl (v5))], [], M)
  | 0, _, _, _, _, _, _, h => h.elim
  | n + 1, v1, v2, v3, v4, v5, M, h => by
    refine am_Wrun 2 (ps := []) (pc' := 11) (lv' := [(0, .inr (.inl (some 69))), (1, .inl (v1)), (2, .inl (v2)), (3, .inl (v3)), (4, .inl (v4)), (5, .inl (v5))]) (st' := [.inl (v2), .inl (v5)]) (M' := M) rfl trivial ?_
    obtain ⟨b0, b1, ht, hf⟩ := h
    refine am_Wbr (P := [am_rg v5, am_rg v2]) (c := v2 ≤ v5) (t := 59) (f := 14) (st' := []) rfl rfl ⟨b0, b1, trivial⟩ rfl (fun q => ?_) (fun q => ?_)
    · have h := ht q
      refine am_Wrun 1 (ps := []) (pc' := 61) (lv' := [(0, .inr (.inl (some 69))), (1, .inl (v1)), (2, .inl (v2)), (3, .inl (v3)), (4, .inl (v4)), (5, .inl (v5))]) (st' := [.inl (v4)]) (M' := M) rfl trivial ?_
      exact am_Wreti rfl rfl h
    · have h := hf q
      refine am_Wrun 6 (ps := []) (pc' := 22) (lv' := [(0, .inr (.inl (some 69))), (1, .inl (v1)), (2, .inl (v2)), (3, .inl (v3)), (4, .inl (v4)), (5, .inl (v5))]) (st' := [.inl (v5), .inr (.inl (some 69)), .inl (v2), .inl (v1), .inr (.inl (some 69)), .inl (v4)]) (M' := M) rfl trivial ?_
      refine am_WcallV (y := 115) (n := 2) (a := 69) (f := 25) (as := [.inl (v5)]) (st' := [.inl (v2), .inl (v1), .inr (.inl (some 69)), .inl (v4)]) rfl rfl rfl rfl rfl rfl rfl rfl rfl rfl (Nat.zero_le _) rfl (am_CC_le (Nat.le_of_ble_eq_true rfl) (tm_X6_time h)) (fun r M2 q => ?_) (fun _ _ q => q.elim)
      obtain ⟨x1, rfl, h⟩ := q
      refine am_Wrun 2 (ps := []) (pc' := 28) (lv' := [(0, .inr (.inl (some 69))), (1, .inl (v1)), (2, .inl (v2)), (3, .inl (v3)), (4, .inl (v4)), (5, .inl (v5))]) (st' := [.inl (v5), .inr (.inl (some 69)), .inl (x1), .inl (v2), .inl (v1), .inr (.inl (some 69)), .inl (v4)]) (M' := M2) rfl trivial ?_
      refine am_WcallV (y := 120) (n := 2) (a := 69) (f := 31) (as := [.inl (v5)]) (st' := [.inl (x1), .inl (v2), .inl (v1), .inr (.inl (some 69)), .inl (v4)]) rfl rfl rfl rfl rfl rfl rfl rfl rfl rfl (Nat.zero_le _) rfl (am_CC_le (Nat.le_of_ble_eq_true rfl) (tm_X6_value h)) (fun r M4 q => ?_) (fun _ _ q => q.elim)
      obtain ⟨x3, rfl, h⟩ := q
      refine am_WcallV (y := 130) (n := 5) (a := 69) (f := 34) (as := [.inl (v1), .inl (v2), .inl (x1), .inl (x3)]) (st' := [.inl (v4)]) rfl rfl rfl rfl rfl rfl rfl rfl rfl rfl (Nat.zero_le _) rfl (am_CC_le (Nat.le_of_ble_eq_true rfl) (tm_X6_off h)) (fun r M6 q => ?_) (fun _ _ q => q.elim)
      obtain ⟨x5, rfl, h⟩ := q
      refine am_Wrun 4 (ps := []) (pc' := 38) (lv' := [(0, .inr (.inl (some 69))), (1, .inl (v1)), (2, .inl (v2)), (3, .inl (v3)), (4, .inl (v4)), (5, .inl (v5))]) (st' := [.inl (v2), .inl (v1), .inr (.inl (some 69)), .inl (v3), .inl (x5), .inl (v4)]) (M' := M6) rfl trivial ?_
      refine am_WcallV (y := 131) (n := 3) (a := 69) (f := 41) (as := [.inl (v1), .inl (v2)]) (st' := [.inl (v3), .inl (x5), .inl (v4)]) rfl rfl rfl rfl rfl rfl rfl rfl rfl rfl (Nat.zero_le _) rfl (am_CC_le (Nat.le_of_ble_eq_true rfl) (tm_X6_below h)) (fun r M8 q => ?_) (fun _ _ q => q.elim)
      obtain ⟨x7, rfl, h⟩ := q
      refine am_Wrun 1 (ps := []) (pc' := 42) (lv' := [(0, .inr (.inl (some 69))), (1, .inl (v1)), (2, .inl (v2)), (3, .inl (v3)), (4, .inl (v4)), (5, .inl (v5))]) (st' := [.inl (v3 * x7), .inl (x5), .inl (v4)]) (M' := M8) rfl trivial ?_
      obtain ⟨b0, b1, ht, hf⟩ := h
      refine am_Wbr (P := [am_rg x5, am_rg (v3 * x7)]) (c := (v3 * x7) < x5) (t := 49) (f := 45) (st' := [.inl (v4)]) rfl rfl ⟨b0, b1, trivial⟩ rfl (fun q => ?_) (fun q => ?_)
      · have h := ht q
        refine am_Wrun 5 (ps := []) (pc' := 8) (lv' := [(5, .inl (v5 + 1)), (4, .inl (v4 + 0)), (0, .inr (.inl (some 69))), (1, .inl (v1)), (2, .inl (v2)), (3, .inl (v3))]) (st' := []) (M' := M8) rfl trivial ?_
        refine am_W_sub [2, 3, 4, 5, 1, 0] rfl ?_
        exact tw_X6_withinMany_8 n v1 v2 v3 (v4 + 0) (v5 + 1) M8 h
      · have h := hf q
        refine am_Wrun 6 (ps := []) (pc' := 8) (lv' := [(5, .inl (v5 + 1)), (4, .inl (v4 + 1)), (0, .inr (.inl (some 69))), (1, .inl (v1)), (2, .inl (v2)), (3, .inl (v3))]) (st' := []) (M' := M8) rfl trivial ?_
        refine am_W_sub [2, 3, 4, 5, 1, 0] rfl ?_
        exact tw_X6_withinMany_8 n v1 v2 v3 (v4 + 1) (v5 + 1) M8 h
set_option maxRecDepth 20000 in
theorem tm_X6_withinMany {a0 a1 a2 : Int} {M : am_M} {Q : Int → am_M → Prop} (h : wp_X6_withinMany a0 a1 a2 M Q) : am_CC 4 129 [.inr (.inl (some 69)), .inl (a0), .inl (a1), .inl (a2)] M (am_QI Q) (fun _ _ => False) := by
  refine ⟨Nat.le_of_ble_eq_true rfl, ?_⟩
  show am_W (am_CC 3) dt_X6_withinMany 3 0 none (am_QI Q) (am_qx 129 (fun _ _ => False)) (0, 0, [(0, .inr (.inl (some 69))), (1, .inl (a0)), (2, .inl (a1)), (3, .inl (a2))], [], M)
  refine am_Wrun 6 (ps := []) (pc' := 8) (lv' := [(5, .inl (a0 + 1)), (4, .inl (0)), (0, .inr (.inl (some 69))), (1, .inl (a0)), (2, .inl (a1)), (3, .inl (a2))]) (st' := []) (M' := M) rfl trivial ?_
  refine am_W_sub [2, 3, 4, 5, 1, 0] rfl ?_
  obtain ⟨n8, h⟩ := h
  exact tw_X6_withinMany_8 n8 a0 a1 a2 0 (a0 + 1) M h
