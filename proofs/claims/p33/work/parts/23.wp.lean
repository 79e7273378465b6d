def wp_X2_copyFrom_1_48 (M : am_M) (Q : am_M → Prop) : Prop := Q (am_up (am_up (am_up (am_up (am_cp (am_cp (am_cp (am_cp (am_cp (am_cp (am_cp M 49 2 60) 50 3 60) 51 4 60) 52 5 60) 53 6 3) 54 7 8) 55 8 8) 1 7 ((am_cp (am_cp (am_cp (am_cp (am_cp (am_cp (am_cp M 49 2 60) 50 3 60) 51 4 60) 52 5 60) 53 6 3) 54 7 8) 55 8 8) 48 7)) 1 8 ((am_up (am_cp (am_cp (am_cp (am_cp (am_cp (am_cp (am_cp M 49 2 60) 50 3 60) 51 4 60) 52 5 60) 53 6 3) 54 7 8) 55 8 8) 1 7 ((am_cp (am_cp (am_cp (am_cp (am_cp (am_cp (am_cp M 49 2 60) 50 3 60) 51 4 60) 52 5 60) 53 6 3) 54 7 8) 55 8 8) 48 7)) 48 8)) 1 9 ((am_up (am_up (am_cp (am_cp (am_cp (am_cp (am_cp (am_cp (am_cp M 49 2 60) 50 3 60) 51 4 60) 52 5 60) 53 6 3) 54 7 8) 55 8 8) 1 7 ((am_cp (am_cp (am_cp (am_cp (am_cp (am_cp (am_cp M 49 2 60) 50 3 60) 51 4 60) 52 5 60) 53 6 3) 54 7 8) 55 8 8) 48 7)) 1 8 ((am_up (am_cp (am_cp (am_cp (am_cp (am_cp (am_cp (am_cp M 49 2 60) 50 3 60) 51 4 60) 52 5 60) 53 6 3) 54 7 8) 55 8 8) 1 7 ((am_cp (am_cp (am_cp (am_cp (am_cp (am_cp (am_cp M 49 2 60) 50 3 60) 51 4 60) 52 5 60) 53 6 3) 54 7 8) 55 8 8) 48 7)) 48 8)) 48 9)) 1 10 ((am_up (am_up (am_up (am_cp (am_cp (am_cp (am_cp (am_cp (am_cp (am_cp M 49 2 60) 50 3 60) 51 4 60) 52 5 60) 53 6 3) 54 7 8) 55 8 8) 1 7 ((am_cp (am_cp (am_cp (am_cp (am_cp (am_cp (am_cp M 49 2 60) 50 3 60) 51 4 60) 52 5 60) 53 6 3) 54 7 8) 55 8 8) 48 7)) 1 8 ((am_up (am_cp (am_cp (am_cp (am_cp (am_cp (am_cp (am_cp M 49 2 60) 50 3 60) 51 4 60) 52 5 60) 53 6 3) 54 7 8) 55 8 8) 1 7 ((am_cp (am_cp (am_cp (am_cp (am_cp (am_cp (am_cp M 49 2 60) 50 3 60) 51 4 60) 52 5 60) 53 6 3) 54 7 8) 55 8 8) 48 7)) 48 8)) 1 9 ((am_up (am_up (am_cp (am_cp (am_cp (am_cp (am_cp (am_cp (am_cp M 49 2 60) 50 3 60) 51 4 60) 52 5 60) 53 6 3) 54 7 8) 55 8 8) 1 7 ((am_cp (am_cp (am_cp (am_cp (am_cp (am_cp (am_cp M 49 2 60) 50 3 60) 51 4 60) 52 5 60) 53 6 3) 54 7 8) 55 8 8) 48 7)) 1 8 ((am_up (am_cp (am_cp (am_cp (am_cp (am_cp (am_cp (am_cp M 49 2 60) 50 3 60) 51 4 60) 52 5 60) 53 6 3) 54 7 8) 55 8 8) 1 7 ((am_cp (am_cp (am_cp (am_cp (am_cp (am_cp (am_cp M 49 2 60) 50 3 60) 51 4 60) 52 5 60) 53 6 3) 54 7 8) 55 8 8) 48 7)) 48 8)) 48 9)) 48 10))
set_option maxRecDepth 20000 in
theorem tm_X2_copyFrom_1_48 {M : am_M} {Q : am_M → Prop} (h : wp_X2_copyFrom_1_48 M Q) : am_CC 1 4 [.inr (.inl (some 1)), .inr (.inl (some 48))] M (am_QV Q) (fun _ _ => False) := by
  refine ⟨Nat.le_of_ble_eq_true rfl, ?_⟩
  show am_W (am_CC 0) dt_X2_copyFrom 0 0 none (am_QV Q) (am_qx 4 (fun _ _ => False)) (0, 0, [(0, .inr (.inl (some 1))), (1, .inr (.inl (some 48)))], [], M)
  refine am_Wrun 72 (ps := [-128 ≤ (60 : Int) ∧ (60 : Int) ≤ 127, (0 : Int) = 0 ∧ (0 : Int) = 0 ∧ (0 : Int) ≤ 60 ∧ (60 : Int) ≤ 60 ∧ (60 : Int) ≤ 60 ∧ am_cs [] ≤ 8, -128 ≤ (60 : Int) ∧ (60 : Int) ≤ 127, (0 : Int) = 0 ∧ (0 : Int) = 0 ∧ (0 : Int) ≤ 60 ∧ (60 : Int) ≤ 60 ∧ (60 : Int) ≤ 60 ∧ am_cs [] ≤ 8, -128 ≤ (60 : Int) ∧ (60 : Int) ≤ 127, (0 : Int) = 0 ∧ (0 : Int) = 0 ∧ (0 : Int) ≤ 60 ∧ (60 : Int) ≤ 60 ∧ (60 : Int) ≤ 60 ∧ am_cs [] ≤ 8, -128 ≤ (60 : Int) ∧ (60 : Int) ≤ 127, (0 : Int) = 0 ∧ (0 : Int) = 0 ∧ (0 : Int) ≤ 60 ∧ (60 : Int) ≤ 60 ∧ (60 : Int) ≤ 60 ∧ am_cs [] ≤ 8, (0 : Int) = 0 ∧ (0 : Int) = 0 ∧ (0 : Int) ≤ 3 ∧ (3 : Int) ≤ 3 ∧ (3 : Int) ≤ 3 ∧ am_cs [] ≤ 8, -128 ≤ (8 : Int) ∧ (8 : Int) ≤ 127, (0 : Int) = 0 ∧ (0 : Int) = 0 ∧ (0 : Int) ≤ 8 ∧ (8 : Int) ≤ 8 ∧ (8 : Int) ≤ 8 ∧ am_cs [] ≤ 8, -128 ≤ (8 : Int) ∧ (8 : Int) ≤ 127, (0 : Int) = 0 ∧ (0 : Int) = 0 ∧ (0 : Int) ≤ 8 ∧ (8 : Int) ≤ 8 ∧ (8 : Int) ≤ 8 ∧ am_cs [] ≤ 8]) (pc' := 136) (lv' := [(0, .inr (.inl (some 1))), (1, .inr (.inl (some 48)))]) (st' := []) (M' := (am_up (am_up (am_up (am_up (am_cp (am_cp (am_cp (am_cp (am_cp (am_cp (am_cp M 49 2 60) 50 3 60) 51 4 60) 52 5 60) 53 6 3) 54 7 8) 55 8 8) 1 7 ((am_cp (am_cp (am_cp (am_cp (am_cp (am_cp (am_cp M 49 2 60) 50 3 60) 51 4 60) 52 5 60) 53 6 3) 54 7 8) 55 8 8) 48 7)) 1 8 ((am_up (am_cp (am_cp (am_cp (am_cp (am_cp (am_cp (am_cp M 49 2 60) 50 3 60) 51 4 60) 52 5 60) 53 6 3) 54 7 8) 55 8 8) 1 7 ((am_cp (am_cp (am_cp (am_cp (am_cp (am_cp (am_cp M 49 2 60) 50 3 60) 51 4 60) 52 5 60) 53 6 3) 54 7 8) 55 8 8) 48 7)) 48 8)) 1 9 ((am_up (am_up (am_cp (am_cp (am_cp (am_cp (am_cp (am_cp (am_cp M 49 2 60) 50 3 60) 51 4 60) 52 5 60) 53 6 3) 54 7 8) 55 8 8) 1 7 ((am_cp (am_cp (am_cp (am_cp (am_cp (am_cp (am_cp M 49 2 60) 50 3 60) 51 4 60) 52 5 60) 53 6 3) 54 7 8) 55 8 8) 48 7)) 1 8 ((am_up (am_cp (am_cp (am_cp (am_cp (am_cp (am_cp (am_cp M 49 2 60) 50 3 60) 51 4 60) 52 5 60) 53 6 3) 54 7 8) 55 8 8) 1 7 ((am_cp (am_cp (am_cp (am_cp (am_cp (am_cp (am_cp M 49 2 60) 50 3 60) 51 4 60) 52 5 60) 53 6 3) 54 7 8) 55 8 8) 48 7)) 48 8)) 48 9)) 1 10 ((am_up (am_up (am_up (am_cp (am_cp (am_cp (am_cp (am_cp (am_cp (am_cp M 49 2 60) 50 3 60) 51 4 60) 52 5 60) 53 6 3) 54 7 8) 55 8 8) 1 7 ((am_cp (am_cp (am_cp (am_cp (am_cp (am_cp (am_cp M 49 2 60) 50 3 60) 51 4 60) 52 5 60) 53 6 3) 54 7 8) 55 8 8) 48 7)) 1 8 ((am_up (am_cp (am_cp (am_cp (am_cp (am_cp (am_cp (am_cp M 49 2 60) 50 3 60) 51 4 60) 52 5 60) 53 6 3) 54 7 8) 55 8 8) 1 7 ((am_cp (am_cp (am_cp (am_cp (am_cp (am_cp (am_cp M 49 2 60) 50 3 60) 51 4 60) 52 5 60) 53 6 3) 54 7 8) 55 8 8) 48 7)) 48 8)) 1 9 ((am_up (am_up (am_cp (am_cp (am_cp (am_cp (am_cp (am_cp (am_cp M 49 2 60) 50 3 60) 51 4 60) 52 5 60) 53 6 3) 54 7 8) 55 8 8) 1 7 ((am_cp (am_cp (am_cp (am_cp (am_cp (am_cp (am_cp M 49 2 60) 50 3 60) 51 4 60) 52 5 60) 53 6 3) 54 7 8) 55 8 8) 48 7)) 1 8 ((am_up (am_cp (am_cp (am_cp (am_cp (am_cp (am_cp (am_cp M 49 2 60) 50 3 60) 51 4 60) 52 5 60) 53 6 3) 54 7 8) 55 8 8) 1 7 ((am_cp (am_cp (am_cp (am_cp (am_cp (am_cp (am_cp M 49 2 60) 50 3 60) 51 4 60) 52 5 60) 53 6 3) 54 7 8) 55 8 8) 48 7)) 48 8)) 48 9)) 48 10))) rfl ⟨⟨by decide, by decide⟩, ⟨rfl, rfl, by decide, by decide, by decide, by decide⟩, ⟨by decide, by decide⟩, ⟨rfl, rfl, by decide, by decide, by decide, by decide⟩, ⟨by decide, by decide⟩, ⟨rfl, rfl, by decide, by decide, by decide, by decide⟩, ⟨by decide, by decide⟩, ⟨rfl, rfl, by decide, by decide, by decide, by decide⟩, ⟨rfl, rfl, by decide, by decide, by decide, by decide⟩, ⟨by decide, by decide⟩, ⟨rfl, rfl, by decide, by decide, by decide, by decide⟩, ⟨by decide, by decide⟩, ⟨rfl, rfl, by decide, by decide, by decide, by decide⟩, trivial⟩ ?_
  exact am_Wretv rfl rfl h
def wp_X2_copyFrom_1_56 (M : am_M) (Q : am_M → Prop) : Prop := Q (am_up (am_up (am_up (am_up (am_cp (am_cp (am_cp (am_cp (am_cp (am_cp (am_cp M 57 2 60) 58 3 60) 59 4 60) 60 5 60) 61 6 3) 62 7 8) 63 8 8) 1 7 ((am_cp (am_cp (am_cp (am_cp (am_cp (am_cp (am_cp M 57 2 60) 58 3 60) 59 4 60) 60 5 60) 61 6 3) 62 7 8) 63 8 8) 56 7)) 1 8 ((am_up (am_cp (am_cp (am_cp (am_cp (am_cp (am_cp (am_cp M 57 2 60) 58 3 60) 59 4 60) 60 5 60) 61 6 3) 62 7 8) 63 8 8) 1 7 ((am_cp (am_cp (am_cp (am_cp (am_cp (am_cp (am_cp M 57 2 60) 58 3 60) 59 4 60) 60 5 60) 61 6 3) 62 7 8) 63 8 8) 56 7)) 56 8)) 1 9 ((am_up (am_up (am_cp (am_cp (am_cp (am_cp (am_cp (am_cp (am_cp M 57 2 60) 58 3 60) 59 4 60) 60 5 60) 61 6 3) 62 7 8) 63 8 8) 1 7 ((am_cp (am_cp (am_cp (am_cp (am_cp (am_cp (am_cp M 57 2 60) 58 3 60) 59 4 60) 60 5 60) 61 6 3) 62 7 8) 63 8 8) 56 7)) 1 8 ((am_up (am_cp (am_cp (am_cp (am_cp (am_cp (am_cp (am_cp M 57 2 60) 58 3 60) 59 4 60) 60 5 60) 61 6 3) 62 7 8) 63 8 8) 1 7 ((am_cp (am_cp (am_cp (am_cp (am_cp (am_cp (am_cp M 57 2 60) 58 3 60) 59 4 60) 60 5 60) 61 6 3) 62 7 8) 63 8 8) 56 7)) 56 8)) 56 9)) 1 10 ((am_up (am_up (am_up (am_cp (am_cp (am_cp (am_cp (am_cp (am_cp (am_cp M 57 2 60) 58 3 60) 59 4 60) 60 5 60) 61 6 3) 62 7 8) 63 8 8) 1 7 ((am_cp (am_cp (am_cp (am_cp (am_cp (am_cp (am_cp M 57 2 60) 58 3 60) 59 4 60) 60 5 60) 61 6 3) 62 7 8) 63 8 8) 56 7)) 1 8 ((am_up (am_cp (am_cp (am_cp (am_cp (am_cp (am_cp (am_cp M 57 2 60) 58 3 60) 59 4 60) 60 5 60) 61 6 3) 62 7 8) 63 8 8) 1 7 ((am_cp (am_cp (am_cp (am_cp (am_cp (am_cp (am_cp M 57 2 60) 58 3 60) 59 4 60) 60 5 60) 61 6 3) 62 7 8) 63 8 8) 56 7)) 56 8)) 1 9 ((am_up (am_up (am_cp (am_cp (am_cp (am_cp (am_cp (am_cp (am_cp M 57 2 60) 58 3 60) 59 4 60) 60 5 60) 61 6 3) 62 7 8) 63 8 8) 1 7 ((am_cp (am_cp (am_cp (am_cp (am_cp (am_cp (am_cp M 57 2 60) 58 3 60) 59 4 60) 60 5 60) 61 6 3) 62 7 8) 63 8 8) 56 7)) 1 8 ((am_up (am_cp (am_cp (am_cp (am_cp (am_cp (am_cp (am_cp M 57 2 60) 58 3 60) 59 4 60) 60 5 60) 61 6 3) 62 7 8) 63 8 8) 1 7 ((am_cp (am_cp (am_cp (am_cp (am_cp (am_cp (am_cp M 57 2 60) 58 3 60) 59 4 60) 60 5 60) 61 6 3) 62 7 8) 63 8 8) 56 7)) 56 8)) 56 9)) 56 10))
set_option maxRecDepth 20000 in
theorem tm_X2_copyFrom_1_56 {M : am_M} {Q : am_M → Prop} (h : wp_X2_copyFrom_1_56 M Q) : am_CC 1 4 [.inr (.inl (some 1)), .inr (.inl (some 56))] M (am_QV Q) (fun _ _ => False) := by
  refine ⟨Nat.le_of_ble_eq_true rfl, ?_⟩
  show am_W (am_CC 0) dt_X2_copyFrom 0 0 none (am_QV Q) (am_qx 4 (fun _ _ => False)) (0, 0, [(0, .inr (.inl (some 1))), (1, .inr (.inl (some 56)))], [], M)
  refine am_Wrun 72 (ps := [-128 ≤ (60 : Int) ∧ (60 : Int) ≤ 127, (0 : Int) = 0 ∧ (0 : Int) = 0 ∧ (0 : Int) ≤ 60 ∧ (60 : Int) ≤ 60 ∧ (60 : Int) ≤ 60 ∧ am_cs [] ≤ 8, -128 ≤ (60 : Int) ∧ (60 : Int) ≤ 127, (0 : Int) = 0 ∧ (0 : Int) = 0 ∧ (0 : Int) ≤ 60 ∧ (60 : Int) ≤ 60 ∧ (60 : Int) ≤ 60 ∧ am_cs [] ≤ 8, -128 ≤ (60 : Int) ∧ (60 : Int) ≤ 127, (0 : Int) = 0 ∧ (0 : Int) = 0 ∧ (0 : Int) ≤ 60 ∧ (60 : Int) ≤ 60 ∧ (60 : Int) ≤ 60 ∧ am_cs [] ≤ 8, -128 ≤ (60 : Int) ∧ (60 : Int) ≤ 127, (0 : Int) = 0 ∧ (0 : Int) = 0 ∧ (0 : Int) ≤ 60 ∧ (60 : Int) ≤ 60 ∧ (60 : Int) ≤ 60 ∧ am_cs [] ≤ 8, (0 : Int) = 0 ∧ (0 : Int) = 0 ∧ (0 : Int) ≤ 3 ∧ (3 : Int) ≤ 3 ∧ (3 : Int) ≤ 3 ∧ am_cs [] ≤ 8, -128 ≤ (8 : Int) ∧ (8 : Int) ≤ 127, (0 : Int) = 0 ∧ (0 : Int) = 0 ∧ (0 : Int) ≤ 8 ∧ (8 : Int) ≤ 8 ∧ (8 : Int) ≤ 8 ∧ am_cs [] ≤ 8, -128 ≤ (8 : Int) ∧ (8 : Int) ≤ 127, (0 : Int) = 0 ∧ (0 : Int) = 0 ∧ (0 : Int) ≤ 8 ∧ (8 : Int) ≤ 8 ∧ (8 : Int) ≤ 8 ∧ am_cs [] ≤ 8]) (pc' := 136) (lv' := [(0, .inr (.inl (some 1))), (1, .inr (.inl (some 56)))]) (st' := []) (M' := (am_up (am_up (am_up (am_up (am_cp (am_cp (am_cp (am_cp (am_cp (am_cp (am_cp M 57 2 60) 58 3 60) 59 4 60) 60 5 60) 61 6 3) 62 7 8) 63 8 8) 1 7 ((am_cp (am_cp (am_cp (am_cp (am_cp (am_cp (am_cp M 57 2 60) 58 3 60) 59 4 60) 60 5 60) 61 6 3) 62 7 8) 63 8 8) 56 7)) 1 8 ((am_up (am_cp (am_cp (am_cp (am_cp (am_cp (am_cp (am_cp M 57 2 60) 58 3 60) 59 4 60) 60 5 60) 61 6 3) 62 7 8) 63 8 8) 1 7 ((am_cp (am_cp (am_cp (am_cp (am_cp (am_cp (am_cp M 57 2 60) 58 3 60) 59 4 60) 60 5 60) 61 6 3) 62 7 8) 63 8 8) 56 7)) 56 8)) 1 9 ((am_up (am_up (am_cp (am_cp (am_cp (am_cp (am_cp (am_cp (am_cp M 57 2 60) 58 3 60) 59 4 60) 60 5 60) 61 6 3) 62 7 8) 63 8 8) 1 7 ((am_cp (am_cp (am_cp (am_cp (am_cp (am_cp (am_cp M 57 2 60) 58 3 60) 59 4 60) 60 5 60) 61 6 3) 62 7 8) 63 8 8) 56 7)) 1 8 ((am_up (am_cp (am_cp (am_cp (am_cp (am_cp (am_cp (am_cp M 57 2 60) 58 3 60) 59 4 60) 60 5 60) 61 6 3) 62 7 8) 63 8 8) 1 7 ((am_cp (am_cp (am_cp (am_cp (am_cp (am_cp (am_cp M 57 2 60) 58 3 60) 59 4 60) 60 5 60) 61 6 3) 62 7 8) 63 8 8) 56 7)) 56 8)) 56 9)) 1 10 ((am_up (am_up (am_up (am_cp (am_cp (am_cp (am_cp (am_cp (am_cp (am_cp M 57 2 60) 58 3 60) 59 4 60) 60 5 60) 61 6 3) 62 7 8) 63 8 8) 1 7 ((am_cp (am_cp (am_cp (am_cp (am_cp (am_cp (am_cp M 57 2 60) 58 3 60) 59 4 60) 60 5 60) 61 6 3) 62 7 8) 63 8 8) 56 7)) 1 8 ((am_up (am_cp (am_cp (am_cp (am_cp (am_cp (am_cp (am_cp M 57 2 60) 58 3 60) 59 4 60) 60 5 60) 61 6 3) 62 7 8) 63 8 8) 1 7 ((am_cp (am_cp (am_cp (am_cp (am_cp (am_cp (am_cp M 57 2 60) 58 3 60) 59 4 60) 60 5 60) 61 6 3) 62 7 8) 63 8 8) 56 7)) 56 8)) 1 9 ((am_up (am_up (am_cp (am_cp (am_cp (am_cp (am_cp (am_cp (am_cp M 57 2 60) 58 3 60) 59 4 60) 60 5 60) 61 6 3) 62 7 8) 63 8 8) 1 7 ((am_cp (am_cp (am_cp (am_cp (am_cp (am_cp (am_cp M 57 2 60) 58 3 60) 59 4 60) 60 5 60) 61 6 3) 62 7 8) 63 8 8) 56 7)) 1 8 ((am_up (am_cp (am_cp (am_cp (am_cp (am_cp (am_cp (am_cp M 57 2 60) 58 3 60) 59 4 60) 60 5 60) 61 6 3) 62 7 8) 63 8 8) 1 7 ((am_cp (am_cp (am_cp (am_cp (am_cp (am_cp (am_cp M 57 2 60) 58 3 60) 59 4 60) 60 5 60) 61 6 3) 62 7 8) 63 8 8) 56 7)) 56 8)) 56 9)) 56 10))) rfl ⟨⟨by decide, by decide⟩, ⟨rfl, rfl, by decide, by decide, by decide, by decide⟩, ⟨by decide, by decide⟩, ⟨rfl, rfl, by decide, by decide, by decide, by decide⟩, ⟨by decide, by decide⟩, ⟨rfl, rfl, by decide, by decide, by decide, by decide⟩, ⟨by decide, by decide⟩, ⟨rfl, rfl, by decide, by decide, by decide, by decide⟩, ⟨rfl, rfl, by decide, by decide, by decide, by decide⟩, ⟨by decide, by decide⟩, ⟨rfl, rfl, by decide, by decide, by decide, by decide⟩, ⟨by decide, by decide⟩, ⟨rfl, rfl, by decide, by decide, by decide, by decide⟩, trivial⟩ ?_
  exact am_Wretv rfl rfl h
abbrev dt_X0_restore : am_D := (tk_X0_restore, 0, 3, none, tb_hn 46)
def wp_X0_restore (M : am_M) (Q : am_M → Prop) : Prop := (am_rg (M 14 2)) ∧ (¬ (M 14 2) = 0 → wp_X0_rowAt (((am_up M 14 2 ((M 14 2) - 1)) 14 1) + ((am_up M 14 2 ((M 14 2) - 1)) 14 2)) (am_up M 14 2 ((M 14 2) - 1)) (fun x1 M2 => (x1 = none ∨ x1 = some 16 ∨ x1 = some 24 ∨ x1 = some 32 ∨ x1 = some 40 ∨ x1 = some 48 ∨ x1 = some 56) ∧ (x1 = none → Q M2) ∧ (x1 = some 16 → wp_X2_copyFrom_1_16 M2 (fun M3 => Q M3)) ∧ (x1 = some 24 → wp_X2_copyFrom_1_24 M2 (fun M4 => Q M4)) ∧ (x1 = some 32 → wp_X2_copyFrom_1_32 M2 (fun M5 => Q M5)) ∧ (x1 = some 40 → wp_X2_copyFrom_1_40 M2 (fun M6 => Q M6)) ∧ (x1 = some 48 → wp_X2_copyFrom_1_48 M2 (fun M7 => Q M7)) ∧ (x1 = some 56 → wp_X2_copyFrom_1_56 M2 (fun M8 => Q M8)))) ∧ (¬ (¬ (M 14 2) = 0) → Q M)
set_option maxRecDepth 20000 in
theorem tm_X0_restore {M : am_M} {Q : am_M → Prop} (h : wp_X0_restore M Q) : am_CC 3 46 [.inr (.inl (some 14)), .inr (.inl (some 1))] M (am_QV Q) (fun _ _ => False) := by
  refine ⟨Nat.le_of_ble_eq_true rfl, ?_⟩
  show am_W (am_CC 2) dt_X0_restore 2 0 none (am_QV Q) (am_qx 46 (fun _ _ => False)) (0, 0, [(0, .inr (.inl (some 14))), (1, .inr (.inl (some 1)))], [], M)
  refine am_Wrun 2 (ps := []) (pc' := 4) (lv' := [(0, .inr (.inl (some 14))), (1, .inr (.inl (some 1)))]) (st' := [.inl (M 14 2)]) (M' := M) rfl trivial ?_
  obtain ⟨b0, ht, hf⟩ := h
  refine am_Wbr (P := [am_rg (M 14 2)]) (c := ¬ (M 14 2) = 0) (t := 8) (f := 7) (st' := []) rfl rfl ⟨b0, trivial⟩ rfl (fun q => ?_) (fun q => ?_)
  · have h := ht q
    refine am_Wrun 12 (ps := []) (pc' := 28) (lv' := [(0, .inr (.inl (some 14))), (1, .inr (.inl (some 1)))]) (st' := [.inl (((am_up M 14 2 ((M 14 2) - 1)) 14 1) + ((am_up M 14 2 ((M 14 2) - 1)) 14 2)), .inr (.inl (some 14))]) (M' := (am_up M 14 2 ((M 14 2) - 1))) rfl trivial ?_
    refine am_WcallV (y := 2) (n := 2) (a := 14) (f := 31) (as := [.inl (((am_up M 14 2 ((M 14 2) - 1)) 14 1) + ((am_up M 14 2 ((M 14 2) - 1)) 14 2))]) (st' := []) rfl rfl rfl rfl rfl rfl rfl rfl rfl rfl (Nat.zero_le _) rfl (am_CC_le (Nat.le_of_ble_eq_true rfl) (tm_X0_rowAt h)) (fun r M2 q => ?_) (fun _ _ q => q.elim)
    obtain ⟨x1, rfl, h⟩ := q
    obtain ⟨hor, g0, g1, g2, g3, g4, g5, g6⟩ := h
    rcases hor with rfl | rfl | rfl | rfl | rfl | rfl | rfl
    · have h := g0 rfl
      refine am_Wrun 2 (ps := []) (pc' := 33) (lv' := [(2, .inr (.inl none)), (0, .inr (.inl (some 14))), (1, .inr (.inl (some 1)))]) (st' := [.inr (.inl none)]) (M' := M2) rfl trivial ?_
      refine am_Wbr (P := []) (c := (none : Option Nat) = none) (t := 41) (f := 36) (st' := []) rfl rfl trivial rfl (fun q => ?_) (fun q => absurd rfl q)
      exact am_Wretv rfl rfl h
    · have h := g1 rfl
      refine am_Wrun 2 (ps := []) (pc' := 33) (lv' := [(2, .inr (.inl (some 16))), (0, .inr (.inl (some 14))), (1, .inr (.inl (some 1)))]) (st' := [.inr (.inl (some 16))]) (M' := M2) rfl trivial ?_
      refine am_Wbr (P := []) (c := (some 16) = none) (t := 41) (f := 36) (st' := []) rfl rfl trivial rfl (fun q => absurd q (by simp)) (fun q => ?_)
      refine am_Wrun 2 (ps := []) (pc' := 38) (lv' := [(2, .inr (.inl (some 16))), (0, .inr (.inl (some 14))), (1, .inr (.inl (some 1)))]) (st' := [.inr (.inl (some 16)), .inr (.inl (some 1))]) (M' := M2) rfl trivial ?_
      refine am_WcallV (y := 4) (n := 2) (a := 1) (f := 41) (as := [.inr (.inl (some 16))]) (st' := []) rfl rfl rfl rfl rfl rfl rfl rfl rfl rfl (Nat.zero_le _) rfl (am_CC_le (Nat.le_of_ble_eq_true rfl) (tm_X2_copyFrom_1_16 h)) (fun r M3 q => ?_) (fun _ _ q => q.elim)
      obtain ⟨rfl, h⟩ := q
      exact am_Wretv rfl rfl h
    · have h := g2 rfl
      refine am_Wrun 2 (ps := []) (pc' := 33) (lv' := [(2, .inr (.inl (some 24))), (0, .inr (.inl (some 14))), (1, .inr (.inl (some 1)))]) (st' := [.inr (.inl (some 24))]) (M' := M2) rfl trivial ?_
      refine am_Wbr (P := []) (c := (some 24) = none) (t := 41) (f := 36) (st' := []) rfl rfl trivial rfl (fun q => absurd q (by simp)) (fun q => ?_)
      refine am_Wrun 2 (ps := []) (pc' := 38) (lv' := [(2, .inr (.inl (some 24))), (0, .inr (.inl (some 14))), (1, .inr (.inl (some 1)))]) (st' := [.inr (.inl (some 24)), .inr (.inl (some 1))]) (M' := M2) rfl trivial ?_
      refine am_WcallV (y := 4) (n := 2) (a := 1) (f := 41) (as := [.inr (.inl (some 24))]) (st' := []) rfl rfl rfl rfl rfl rfl rfl rfl rfl rfl (Nat.zero_le _) rfl (am_CC_le (Nat.le_of_ble_eq_true rfl) (tm_X2_copyFrom_1_24 h)) (fun r M4 q => ?_) (fun _ _ q => q.elim)
      obtain ⟨rfl, h⟩ := q
      exact am_Wretv rfl rfl h
    · have h := g3 rfl
      refine am_Wrun 2 (ps := []) (pc' := 33) (lv' := [(2, .inr (.inl (some 32))), (0, .inr (.inl (some 14))), (1, .inr (.inl (some 1)))]) (st' := [.inr (.inl (some 32))]) (M' := M2) rfl trivial ?_
      refine am_Wbr (P := []) (c := (some 32) = none) (t := 41) (f := 36) (st' := []) rfl rfl trivial rfl (fun q => absurd q (by simp)) (fun q => ?_)
      refine am_Wrun 2 (ps := []) (pc' := 38) (lv' := [(2, .inr (.inl (some 32))), (0, .inr (.inl (some 14))), (1, .inr (.inl (some 1)))]) (st' := [.inr (.inl (some 32)), .inr (.inl (some 1))]) (M' := M2) rfl trivial ?_
      refine am_WcallV (y := 4) (n := 2) (a := 1) (f := 41) (as := [.inr (.inl (some 32))]) (st' := []) rfl rfl rfl rfl rfl rfl rfl rfl rfl rfl (Nat.zero_le _) rfl (am_CC_le (Nat.le_of_ble_eq_true rfl) (tm_X2_copyFrom_1_32 h)) (fun r M5 q => ?_) (fun _ _ q => q.elim)
      obtain ⟨rfl, h⟩ := q
      exact am_Wretv rfl rfl h
    · have h := g4 rfl
      refine am_Wrun 2 (ps := []) (pc' := 33) (lv' := [(2, .inr (.inl (some 40))), (0, .inr (.inl (some 14))), (1, .inr (.inl (some 1)))]) (st' := [.inr (.inl (some 40))]) (M' := M2) rfl trivial ?_
      refine am_Wbr (P := []) (c := (some 40) = none) (t := 41) (f := 36) (st' := []) rfl rfl trivial rfl (fun q => absurd q (by simp)) (fun q => ?_)
      refine am_Wrun 2 (ps := []) (pc' := 38) (lv' := [(2, .inr (.inl (some 40))), (0, .inr (.inl (some 14))), (1, .inr (.inl (some 1)))]) (st' := [.inr (.inl (some 40)), .inr (.inl (some 1))]) (M' := M2) rfl trivial ?_
      refine am_WcallV (y := 4) (n := 2) (a := 1) (f := 41) (as := [.inr (.inl (some 40))]) (st' := []) rfl rfl rfl rfl rfl rfl rfl rfl rfl rfl (Nat.zero_le _) rfl (am_CC_le (Nat.le_of_ble_eq_true rfl) (tm_X2_copyFrom_1_40 h)) (fun r M6 q => ?_) (fun _ _ q => q.elim)
      obtain ⟨rfl, h⟩ := q
      exact am_Wretv rfl rfl h
    · have h := g5 rfl
      refine am_Wrun 2 (ps := []) (pc' := 33) (lv' := [(2, .inr (.inl (some 48))), (0, .inr (.inl (some 14))), (1, .inr (.inl (some 1)))]) (st' := [.inr (.inl (some 48))]) (M' := M2) rfl trivial ?_
      refine am_Wbr (P := []) (c := (some 48) = none) (t := 41) (f := 36) (st' := []) rfl rfl trivial rfl (fun q => absurd q (by simp)) (fun q => ?_)
      refine am_Wrun 2 (ps := []) (pc' := 38) (lv' := [(2, .inr (.inl (some 48))), (0, .inr (.inl (some 14))), (1, .inr (.inl (some 1)))]) (st' := [.inr (.inl (some 48)), .inr (.inl (some 1))]) (M' := M2) rfl trivial ?_
      refine am_WcallV (y := 4) (n := 2) (a := 1) (f := 41) (as := [.inr (.inl (some 48))]) (st' := []) rfl rfl rfl rfl rfl rfl rfl rfl rfl rfl (Nat.zero_le _) rfl (am_CC_le (Nat.le_of_ble_eq_true rfl) (tm_X2_copyFrom_1_48 h)) (fun r M7 q => ?_) (fun _ _ q => q.elim)
      obtain ⟨rfl, h⟩ := q
      exact am_Wretv rfl rfl h
    · have h := g6 rfl
      refine am_Wrun 2 (ps := []) (pc' := 33) (lv' := [(2, .inr (.inl (some 56))), (0, .inr (.inl (some 14))), (1, .inr (.inl (some 1)))]) (st' := [.inr (.inl (some 56))]) (M' := M2) rfl trivial ?_
      refine am_Wbr (P := []) (c := (some 56) = none) (t := 41) (f := 36) (st' := []) rfl rfl trivial rfl (fun q => absurd q (by simp)) (fun q => ?_)
      refine am_Wrun 2 (ps := []) (pc' := 38) (lv' := [(2, .inr (.inl (some 56))), (0, .inr (.inl (some 14))), (1, .inr (.inl (some 1)))]) (st' := [.inr (.inl (some 56)), .inr (.inl (some 1))]) (M' := M2) rfl trivial ?_
      refine am_WcallV (y := 4) (n := 2) (a := 1) (f := 41) (as := [.inr (.inl (some 56))]) (st' := []) rfl rfl rfl rfl rfl rfl rfl rfl rfl rfl (Nat.zero_le _) rfl (am_CC_le (Nat.le_of_ble_eq_true rfl) (tm_X2_copyFrom_1_56 h)) (fun r M8 q => ?_) (fun _ _ q => q.elim)
      obtain ⟨rfl, h⟩ := q
      exact am_Wretv rfl rfl h
  · have h := hf q
    exact am_Wretv rfl rfl h
abbrev dt_X5_undo : am_D := (tk_X5_undo, 5, 1, some .int, tb_hn 45)
def wp_X5_undo (M : am_M) (Q : Int → am_M → Prop) (X : am_X) : Prop := (am_rg (M 14 2)) ∧ (¬ (M 14 2) = 0 → wp_X0_restore M (fun M1 => wp_X5_pointsChanged M1 (fun M2 => Q (M2 14 2) M2))) ∧ (¬ (¬ (M 14 2) = 0) → X 1 M)
set_option maxRecDepth 20000 in
theorem tm_X5_undo {M : am_M} {Q : Int → am_M → Prop} {X : am_X} (h : wp_X5_undo M Q X) : am_CC 6 45 [.inr (.inl (some 0))] M (am_QI Q) X := by
  refine ⟨Nat.le_of_ble_eq_true rfl, ?_⟩
  show am_W (am_CC 5) dt_X5_undo 5 0 none (am_QI Q) (am_qx 45 X) (0, 0, [(0, .inr (.inl (some 0)))], [], M)
  have hX : ∀ E M, X E M → am_qx 45 X E M := fun E M q => ⟨⟨rfl, by decide⟩, q⟩
  refine am_Wrun 3 (ps := []) (pc' := 7) (lv' := [(0, .inr (.inl (some 0)))]) (st' := [.inl (M 14 2)]) (M' := M) rfl trivial ?_
  obtain ⟨b0, ht, hf⟩ := h
  refine am_Wbr (P := [am_rg (M 14 2)]) (c := ¬ (M 14 2) = 0) (t := 20) (f := 10) (st' := []) rfl rfl ⟨b0, trivial⟩ rfl (fun q => ?_) (fun q => ?_)
  · have h := ht q
    refine am_Wrun 4 (ps := []) (pc' := 28) (lv' := [(0, .inr (.inl (some 0)))]) (st' := [.inr (.inl (some 1)), .inr (.inl (some 14))]) (M' := M) rfl trivial ?_
    refine am_WcallV (y := 46) (n := 2) (a := 14) (f := 31) (as := [.inr (.inl (some 1))]) (st' := []) rfl rfl rfl rfl rfl rfl rfl rfl rfl rfl (Nat.zero_le _) rfl (am_CC_le (Nat.le_of_ble_eq_true rfl) (tm_X0_restore h)) (fun r M1 q => ?_) (fun _ _ q => q.elim)
    obtain ⟨rfl, h⟩ := q
    refine am_Wrun 1 (ps := []) (pc' := 32) (lv' := [(0, .inr (.inl (some 0)))]) (st' := [.inr (.inl (some 0))]) (M' := M1) rfl trivial ?_
    refine am_WcallV (y := 39) (n := 1) (a := 0) (f := 35) (as := []) (st' := []) rfl rfl rfl rfl rfl rfl rfl rfl rfl rfl (Nat.zero_le _) rfl (am_CC_le (Nat.le_of_ble_eq_true rfl) (tm_X5_pointsChanged h)) (fun r M2 q => ?_) (fun _ _ q => q.elim)
    obtain ⟨rfl, h⟩ := q
    refine am_Wrun 3 (ps := []) (pc' := 42) (lv' := [(0, .inr (.inl (some 0)))]) (st' := [.inl (M2 14 2)]) (M' := M2) rfl trivial ?_
    exact am_Wreti rfl rfl h
  · have h := hf q
    exact am_Wthr (is := 207) (ic := 77) (E := 1) rfl (Nat.le_of_ble_eq_true rfl) rfl rfl rfl rfl (Or.inl ⟨rfl, rfl, rfl⟩) (hX _ _ h)
abbrev dt_X5_isValue : am_D := (tk_X5_isValue, 5, 1, some .boolean, tb_hn 81)
def wp_X5_isValue (a0 : Int) (M : am_M) (Q : Int → am_M → Prop) : Prop := (am_rg a0) ∧ (a0 < (-999) → Q 0 M) ∧ (¬ a0 < (-999) → (am_rg a0) ∧ (999 < a0 → Q 0 M) ∧ (¬ 999 < a0 → Q 1 M))
set_option maxRecDepth 20000 in
theorem tm_X5_isValue {a0 : Int} {M : am_M} {Q : Int → am_M → Prop} (h : wp_X5_isValue a0 M Q) : am_CC 1 81 [.inl (a0)] M (am_QI Q) (fun _ _ => False) := by
  refine ⟨Nat.le_of_ble_eq_true rfl, ?_⟩
  show am_W (am_CC 0) dt_X5_isValue 0 0 none (am_QI Q) (am_qx 81 (fun _ _ => False)) (0, 0, [(0, .inl (a0))], [], M)
  refine am_Wrun 2 (ps := [-32768 ≤ ((-999) : Int) ∧ ((-999) : Int) ≤ 32767]) (pc' := 4) (lv' := [(0, .inl (a0))]) (st' := [.inl ((-999)), .inl (a0)]) (M' := M) rfl ⟨⟨by decide, by decide⟩, trivial⟩ ?_
  obtain ⟨b0, ht, hf⟩ := h
  refine am_Wbr (P := [am_rg a0, am_rg (-999)]) (c := a0 < (-999)) (t := 18) (f := 7) (st' := []) rfl rfl ⟨b0, (am_rgd rfl), trivial⟩ rfl (fun q => ?_) (fun q => ?_)
  · have h := ht q
    refine am_Wrun 1 (ps := []) (pc' := 19) (lv' := [(0, .inl (a0))]) (st' := [.inl (0)]) (M' := M) rfl trivial ?_
    exact am_Wretz rfl rfl (Or.inl rfl) h
  · have h := hf q
    refine am_Wrun 2 (ps := [-32768 ≤ (999 : Int) ∧ (999 : Int) ≤ 32767]) (pc' := 11) (lv' := [(0, .inl (a0))]) (st' := [.inl (999), .inl (a0)]) (M' := M) rfl ⟨⟨by decide, by decide⟩, trivial⟩ ?_
    obtain ⟨b0, ht, hf⟩ := h
    refine am_Wbr (P := [am_rg a0, am_rg 999]) (c := 999 < a0) (t := 18) (f := 14) (st' := []) rfl rfl ⟨b0, (am_rgd rfl), trivial⟩ rfl (fun q => ?_) (fun q => ?_)
    · have h := ht q
      refine am_Wrun 1 (ps := []) (pc' := 19) (lv' := [(0, .inl (a0))]) (st' := [.inl (0)]) (M' := M) rfl trivial ?_
      exact am_Wretz rfl rfl (Or.inl rfl) h
    · have h := hf q
      refine am_Wrun 2 (ps := []) (pc' := 19) (lv' := [(0, .inl (a0))]) (st' := [.inl (1)]) (M' := M) rfl trivial ?_
      exact am_Wretz rfl rfl (Or.inr rfl) h
abbrev dt_X2_hasTime : am_D := (tk_X2_hasTime, 2, 3, some .boolean, tb_hn 82)
def wp_X2_hasTime (a0 : Int) (M : am_M) (Q : Int → am_M → Prop) : Prop := wp_X2_placeOf a0 M (fun x1 M2 => wp_X2_hasPoint x1 M2 (fun x3 M4 => (am_rg x3) ∧ (x3 = 0 → Q 0 M4) ∧ (¬ x3 = 0 → (0 ≤ (x1 : Int) ∧ (x1 : Int) < 60) ∧ ((am_rg (M4 2 x1)) ∧ (am_rg a0) ∧ (¬ (M4 2 x1) = a0 → Q 0 M4) ∧ (¬ (¬ (M4 2 x1) = a0) → Q 1 M4)))))
set_option maxRecDepth 20000 in
theorem tm_X2_hasTime {a0 : Int} {M : am_M} {Q : Int → am_M → Prop} (h : wp_X2_hasTime a0 M Q) : am_CC 2 82 [.inr (.inl (some 1)), .inl (a0)] M (am_QI Q) (fun _ _ => False) := by
  refine ⟨Nat.le_of_ble_eq_true rfl, ?_⟩
  show am_W (am_CC 1) dt_X2_hasTime 1 0 none (am_QI Q) (am_qx 82 (fun _ _ => False)) (0, 0, [(0, .inr (.inl (some 1))), (1, .inl (a0))], [], M)
  refine am_Wrun 2 (ps := []) (pc' := 2) (lv' := [(0, .inr (.inl (some 1))), (1, .inl (a0))]) (st' := [.inl (a0), .inr (.inl (some 1))]) (M' := M) rfl trivial ?_
  refine am_WcallV (y := 55) (n := 2) (a := 1) (f := 5) (as := [.inl (a0)]) (st' := []) rfl rfl rfl rfl rfl rfl rfl rfl rfl rfl (Nat.zero_le _) rfl (am_CC_le (Nat.le_of_ble_eq_true rfl) (tm_X2_placeOf h)) (fun r M2 q => ?_) (fun _ _ q => q.elim)
  obtain ⟨x1, rfl, h⟩ := q
  refine am_Wrun 3 (ps := []) (pc' := 8) (lv' := [(2, .inl (x1)), (0, .inr (.inl (some 1))), (1, .inl (a0))]) (st' := [.inl (x1), .inr (.inl (some 1))]) (M' := M2) rfl trivial ?_
  refine am_WcallV (y := 9) (n := 2) (a := 1) (f := 11) (as := [.inl (x1)]) (st' := []) rfl rfl rfl rfl rfl rfl rfl rfl rfl rfl (Nat.zero_le _) rfl (am_CC_le (Nat.le_of_ble_eq_true rfl) (tm_X2_hasPoint h)) (fun r M4 q => ?_) (fun _ _ q => q.elim)
  obtain ⟨x3, rfl, h⟩ := q
  obtain ⟨b0, ht, hf⟩ := h
  refine am_Wbr (P := [am_rg x3]) (c := x3 = 0) (t := 28) (f := 14) (st' := []) rfl rfl ⟨b0, trivial⟩ rfl (fun q => ?_) (fun q => ?_)
  · have h := ht q
    refine am_Wrun 1 (ps := []) (pc' := 29) (lv' := [(2, .inl (x1)), (0, .inr (.inl (some 1))), (1, .inl (a0))]) (st' := [.inl (0)]) (M' := M4) rfl trivial ?_
    exact am_Wretz rfl rfl (Or.inl rfl) h
  · have h := hf q
    obtain ⟨c0_0, h⟩ := h
    refine am_Wrun 5 (ps := [0 ≤ (x1 : Int) ∧ (x1 : Int) < 60]) (pc' := 21) (lv' := [(2, .inl (x1)), (0, .inr (.inl (some 1))), (1, .inl (a0))]) (st' := [.inl (a0), .inl (M4 2 x1)]) (M' := M4) rfl ⟨c0_0, trivial⟩ ?_
    obtain ⟨b0, b1, ht, hf⟩ := h
    refine am_Wbr (P := [am_rg (M4 2 x1), am_rg a0]) (c := ¬ (M4 2 x1) = a0) (t := 28) (f := 24) (st' := []) rfl rfl ⟨b0, b1, trivial⟩ rfl (fun q => ?_) (fun q => ?_)
    · have h := ht q
      refine am_Wrun 1 (ps := []) (pc' := 29) (lv' := [(2, .inl (x1)), (0, .inr (.inl (some 1))), (1, .inl (a0))]) (st' := [.inl (0)]) (M' := M4) rfl trivial ?_
      exact am_Wretz rfl rfl (Or.inl rfl) h
    · have h := hf q
      refine am_Wrun 2 (ps := []) (pc' := 29) (lv' := [(2, .inl (x1)), (0, .inr (.inl (some 1))), (1, .inl (a0))]) (st' := [.inl (1)]) (M' := M4) rfl trivial ?_
      exact am_Wretz rfl rfl (Or.inr rfl) h
abbrev dt_X2_insert : am_D := (tk_X2_insert, 2, 5, some .int, tb_hn 83)
def wl_X2_insert_24 (Q : Int → am_M → Prop) : Nat → Int → Int → Int → Int → am_M → Prop
  | 0, _, _, _, _, _ => False
  | n + 1, v1, v2, v3, v4, M => (am_rg v4) ∧ (am_rg v3) ∧ (v4 ≤ v3 → (0 ≤ (v3 : Int) ∧ (v3 : Int) < 60) ∧ (0 ≤ (v3 : Int) ∧ (v3 : Int) < 60) ∧ (0 ≤ (v3 : Int) ∧ (v3 : Int) < 60) ∧ (Q v3 (am_up (am_up (am_up (am_up M 2 v3 v1) 3 v3 v2) 4 v3 1) 1 7 (((am_up (am_up (am_up M 2 v3 v1) 3 v3 v2) 4 v3 1) 1 7) + 1)))) ∧ (¬ v4 ≤ v3 → wp_X2_copyPoint (v4 - 1) v4 M (fun M3 => wl_X2_insert_24 Q n v1 v2 v3 (v4 + (-1)) M3))
def wp_X2_insert (a0 : Int) (a1 : Int) (M : am_M) (Q : Int → am_M → Prop) : Prop := (am_rg (M 1 7)) ∧ ((M 1 7) < 60 → wp_X2_placeOf a0 M (fun x1 M2 => ∃ e24, wl_X2_insert_24 Q e24 a0 a1 x1 (M2 1 7) M2)) ∧ (¬ (M 1 7) < 60 → Q (-1000000) M)
set_option maxRecDepth 20000 in
theorem tw_X2_insert_24 {Q : Int → am_M → Prop} {QX : am_X} : ∀ (n : Nat) (v1 : Int) (v2 : Int) (v3 : Int) (v4 : Int) (M : am_M), wl_X2_insert_24 Q n v1 v2 v3 v4 M → am_W (am_CC 1) dt_X2_insert 1 0 none (am_QI Q) QX (0, 24, [(0, .inr (.inl (some 1))), (1, .inl (v1)), (2, .inl (v2)), (3, .inl (v3)), (4, .inl (v4))], [], M)
  | 0, _, _, _, _, _, h => h.elim
  | n + 1, v1, v2, v3, v4, M, h => by
    refine am_Wrun 2 (ps := []) (pc' := 27) (lv' := [(0, .inr (.inl (some 1))), (1, .inl (v1)), (2, .inl (v2)), (3, .inl (v3)), (4, .inl (v4))]) (st' := [.inl (v3), .inl (v4)]) (M' := M) rfl trivial ?_
    obtain ⟨b0, b1, ht, hf⟩ := h
    refine am_Wbr (P := [am_rg v4, am_rg v3]) (c := v4 ≤ v3) (t := 46) (f := 30) (st' := []) rfl rfl ⟨b0, b1, trivial⟩ rfl (fun q => ?_) (fun q => ?_)
    · have h := ht q
      obtain ⟨c0_0, c1_0, c2_0, h⟩ := h
      refine am_Wrun 22 (ps := [0 ≤ (v3 : Int) ∧ (v3 : Int) < 60, 0 ≤ (v3 : Int) ∧ (v3 : Int) < 60, 0 ≤ (v3 : Int) ∧ (v3 : Int) < 60]) (pc' := 78) (lv' := [(0, .inr (.inl (some 1))), (1, .inl (v1)), (2, .inl (v2)), (3, .inl (v3)), (4, .inl (v4))]) (st' := [.inl (v3)]) (M' := (am_up (am_up (am_up (am_up M 2 v3 v1) 3 v3 v2) 4 v3 1) 1 7 (((am_up (am_up (am_up M 2 v3 v1) 3 v3 v2) 4 v3 1) 1 7) + 1))) rfl ⟨c0_0, c1_0, c2_0, trivial⟩ ?_
      exact am_Wreti rfl rfl h
    · have h := hf q
      refine am_Wrun 5 (ps := []) (pc' := 37) (lv' := [(0, .inr (.inl (some 1))), (1, .inl (v1)), (2, .inl (v2)), (3, .inl (v3)), (4, .inl (v4))]) (st' := [.inl (v4), .inl (v4 - 1), .inr (.inl (some 1))]) (M' := M) rfl trivial ?_
      refine am_WcallV (y := 38) (n := 3) (a := 1) (f := 40) (as := [.inl (v4 - 1), .inl (v4)]) (st' := []) rfl rfl rfl rfl rfl rfl rfl rfl rfl rfl (Nat.zero_le _) rfl (am_CC_le (Nat.le_of_ble_eq_true rfl) (tm_X2_copyPoint h)) (fun r M3 q => ?_) (fun _ _ q => q.elim)
      obtain ⟨rfl, h⟩ := q
      refine am_Wrun 2 (ps := []) (pc' := 24) (lv' := [(4, .inl (v4 + (-1))), (0, .inr (.inl (some 1))), (1, .inl (v1)), (2, .inl (v2)), (3, .inl (v3))]) (st' := []) (M' := M3) rfl trivial ?_
      refine am_W_sub [1, 2, 3, 4, 0] rfl ?_
      exact tw_X2_insert_24 n v1 v2 v3 (v4 + (-1)) M3 h
set_option maxRecDepth 20000 in
theorem tm_X2_insert {a0 a1 : Int} {M : am_M} {Q : Int → am_M → Prop} (h : wp_X2_insert a0 a1 M Q) : am_CC 2 83 [.inr (.inl (some 1)), .inl (a0), .inl (a1)] M (am_QI Q) (fun _ _ => False) := by
  refine ⟨Nat.le_of_ble_eq_true rfl, ?_⟩
  show am_W (am_CC 1) dt_X2_insert 1 0 none (am_QI Q) (am_qx 83 (fun _ _ => False)) (0, 0, [(0, .inr (.inl (some 1))), (1, .inl (a0)), (2, .inl (a1))], [], M)
  refine am_Wrun 3 (ps := [-128 ≤ (60 : Int) ∧ (60 : Int) ≤ 127]) (pc' := 6) (lv' := [(0, .inr (.inl (some 1))), (1, .inl (a0)), (2, .inl (a1))]) (st' := [.inl (60), .inl (M 1 7)]) (M' := M) rfl ⟨⟨by decide, by decide⟩, trivial⟩ ?_
  obtain ⟨b0, ht, hf⟩ := h
  refine am_Wbr (P := [am_rg (M 1 7), am_rg 60]) (c := (M 1 7) < 60) (t := 12) (f := 9) (st' := []) rfl rfl ⟨b0, (am_rgd rfl), trivial⟩ rfl (fun q => ?_) (fun q => ?_)
  · have h := ht q
    refine am_Wrun 2 (ps := []) (pc' := 14) (lv' := [(0, .inr (.inl (some 1))), (1, .inl (a0)), (2, .inl (a1))]) (st' := [.inl (a0), .inr (.inl (some 1))]) (M' := M) rfl trivial ?_
    refine am_WcallV (y := 55) (n := 2) (a := 1) (f := 17) (as := [.inl (a0)]) (st' := []) rfl rfl rfl rfl rfl rfl rfl rfl rfl rfl (Nat.zero_le _) rfl (am_CC_le (Nat.le_of_ble_eq_true rfl) (tm_X2_placeOf h)) (fun r M2 q => ?_) (fun _ _ q => q.elim)
    obtain ⟨x1, rfl, h⟩ := q
    refine am_Wrun 4 (ps := []) (pc' := 24) (lv' := [(4, .inl (M2 1 7)), (3, .inl (x1)), (0, .inr (.inl (some 1))), (1, .inl (a0)), (2, .inl (a1))]) (st' := []) (M' := M2) rfl trivial ?_
    refine am_W_sub [2, 3, 4, 1, 0] rfl ?_
    obtain ⟨n24, h⟩ := h
    exact tw_X2_insert_24 n24 a0 a1 x1 (M2 1 7) M2 h
  · have h := hf q
    refine am_Wrun 1 (ps := []) (pc' := 11) (lv' := [(0, .inr (.inl (some 1))), (1, .inl (a0)), (2, .inl (a1))]) (st' := [.inl ((-1000000))]) (M' := M) rfl trivial ?_
    exact am_Wreti rfl rfl h
abbrev dt_X5_add : am_D := (tk_X5_add, 5, 4, some .int, tb_hn 80)
def wj_X5_add_14 (Q : Int → am_M → Prop) (X : am_X) (M : am_M) : Prop := X 0 M
def wj_X5_add_47 (Q : Int → am_M → Prop) (X : am_X) (M : am_M) : Prop := X 1 M
def wp_X5_add (a0 : Int) (a1 : Int) (M : am_M) (Q : Int → am_M → Prop) (X : am_X) : Prop := wp_X5_isTime a0 M (fun x1 M2 => (am_rg x1) ∧ (x1 = 0 → wj_X5_add_14 Q X  M2) ∧ (¬ x1 = 0 → wp_X5_isValue a1 M2 (fun x3 M4 => (am_rg x3) ∧ (¬ x3 = 0 → (am_rg (M4 1 7)) ∧ (60 ≤ (M4 1 7) → wj_X5_add_47 Q X  M4) ∧ (¬ 60 ≤ (M4 1 7) → wp_X2_hasTime a0 M4 (fun x5 M6 => (am_rg x5) ∧ (x5 = 0 → wp_X0_remember M6 (fun M7 => wp_X2_insert a0 a1 M7 (fun x8 M9 => wp_X5_pointsChanged M9 (fun M10 => Q x8 M10)))) ∧ (¬ x5 = 0 → wj_X5_add_47 Q X  M6)))) ∧ (¬ (¬ x3 = 0) → wj_X5_add_14 Q X  M4))))
set_option maxRecDepth 20000 in
theorem tj_X5_add_14 {Q : Int → am_M → Prop} {X : am_X} {QX : am_X} (hX : ∀ E M, X E M → QX E M) (M : am_M) (h : wj_X5_add_14 Q X M) : am_W (am_CC 5) dt_X5_add 5 0 none (am_QI Q) QX (0, 14, [], [], M) := by
  exact am_Wthr (is := 61) (ic := 63) (E := 0) rfl (Nat.le_of_ble_eq_true rfl) rfl rfl rfl rfl (Or.inl ⟨rfl, rfl, rfl⟩) (hX _ _ h)
set_option maxRecDepth 20000 in
theorem tj_X5_add_47 {Q : Int → am_M → Prop} {X : am_X} {QX : am_X} (hX : ∀ E M, X E M → QX E M) (M : am_M) (h : wj_X5_add_47 Q X M) : am_W (am_CC 5) dt_X5_add 5 0 none (am_QI Q) QX (0, 47, [], [], M) := by
  exact am_Wthr (is := 75) (ic := 77) (E := 1) rfl (Nat.le_of_ble_eq_true rfl) rfl rfl rfl rfl (Or.inl ⟨rfl, rfl, rfl⟩) (hX _ _ h)
set_option maxRecDepth 20000 in
theorem tm_X5_add {a0 a1 : Int} {M : am_M} {Q : Int → am_M → Prop} {X : am_X} (h : wp_X5_add a0 a1 M Q X) : am_CC 6 80 [.inr (.inl (some 0)), .inl (a0), .inl (a1)] M (am_QI Q) X := by
  refine ⟨Nat.le_of_ble_eq_true rfl, ?_⟩
  show am_W (am_CC 5) dt_X5_add 5 0 none (am_QI Q) (am_qx 80 X) (0, 0, [(0, .inr (.inl (some 0))), (1, .inl (a0)), (2, .inl (a1))], [], M)
  have hX : ∀ E M, X E M → am_qx 80 X E M := fun E M q => ⟨⟨rfl, by decide⟩, q⟩
  refine am_Wrun 1 (ps := []) (pc' := 1) (lv' := [(0, .inr (.inl (some 0))), (1, .inl (a0)), (2, .inl (a1))]) (st' := [.inl (a0)]) (M' := M) rfl trivial ?_
  refine am_WcallS (y := 74) (n := 1) (f := 4) (co := 0) (as := [.inl (a0)]) (st' := []) rfl rfl rfl rfl rfl rfl rfl rfl rfl (Nat.zero_le _) rfl (am_CC_le (Nat.le_of_ble_eq_true rfl) (tm_X5_isTime h)) (fun r M2 q => ?_) (fun _ _ q => q.elim)
  obtain ⟨x1, rfl, h⟩ := q
  obtain ⟨b0, ht, hf⟩ := h
  refine am_Wbr (P := [am_rg x1]) (c := x1 = 0) (t := 14) (f := 7) (st' := []) rfl rfl ⟨b0, trivial⟩ rfl (fun q => ?_) (fun q => ?_)
  · have h := ht q
    refine am_W_sub [] rfl ?_
    exact tj_X5_add_14 hX  M2 h
  · have h := hf q
    refine am_Wrun 1 (ps := []) (pc' := 8) (lv' := [(0, .inr (.inl (some 0))), (1, .inl (a0)), (2, .inl (a1))]) (st' := [.inl (a1)]) (M' := M2) rfl trivial ?_
    refine am_WcallS (y := 81) (n := 1) (f := 11) (co := 0) (as := [.inl (a1)]) (st' := []) rfl rfl rfl rfl rfl rfl rfl rfl rfl (Nat.zero_le _) rfl (am_CC_le (Nat.le_of_ble_eq_true rfl) (tm_X5_isValue h)) (fun r M4 q => ?_) (fun _ _ q => q.elim)
    obtain ⟨x3, rfl, h⟩ := q
    obtain ⟨b0, ht, hf⟩ := h
    refine am_Wbr (P := [am_rg x3]) (c := ¬ x3 = 0) (t := 24) (f := 14) (st' := []) rfl rfl ⟨b0, trivial⟩ rfl (fun q => ?_) (fun q => ?_)
    · have h := ht q
      refine am_Wrun 4 (ps := [-128 ≤ (60 : Int) ∧ (60 : Int) ≤ 127]) (pc' := 33) (lv' := [(0, .inr (.inl (some 0))), (1, .inl (a0)), (2, .inl (a1))]) (st' := [.inl (60), .inl (M4 1 7)]) (M' := M4) rfl ⟨⟨by decide, by decide⟩, trivial⟩ ?_
      obtain ⟨b0, ht, hf⟩ := h
      refine am_Wbr (P := [am_rg (M4 1 7), am_rg 60]) (c := 60 ≤ (M4 1 7)) (t := 47) (f := 36) (st' := []) rfl rfl ⟨b0, (am_rgd rfl), trivial⟩ rfl (fun q => ?_) (fun q => ?_)
      · have h := ht q
        refine am_W_sub [] rfl ?_
        exact tj_X5_add_47 hX  M4 h
      · have h := hf q
        refine am_Wrun 3 (ps := []) (pc' := 41) (lv' := [(0, .inr (.inl (some 0))), (1, .inl (a0)), (2, .inl (a1))]) (st' := [.inl (a0), .inr (.inl (some 1))]) (M' := M4) rfl trivial ?_
        refine am_WcallV (y := 82) (n := 2) (a := 1) (f := 44) (as := [.inl (a0)]) (st' := []) rfl rfl rfl rfl rfl rfl rfl rfl rfl rfl (Nat.zero_le _) rfl (am_CC_le (Nat.le_of_ble_eq_true rfl) (tm_X2_hasTime h)) (fun r M6 q => ?_) (fun _ _ q => q.elim)
        obtain ⟨x5, rfl, h⟩ := q
        obtain ⟨b0, ht, hf⟩ := h
        refine am_Wbr (P := [am_rg x5]) (c := x5 = 0) (t := 57) (f := 47) (st' := []) rfl rfl ⟨b0, trivial⟩ rfl (fun q => ?_) (fun q => ?_)
        · have h := ht q
          refine am_Wrun 4 (ps := []) (pc' := 65) (lv' := [(0, .inr (.inl (some 0))), (1, .inl (a0)), (2, .inl (a1))]) (st' := [.inr (.inl (some 1)), .inr (.inl (some 14))]) (M' := M6) rfl trivial ?_
          refine am_WcallV (y := 1) (n := 2) (a := 14) (f := 68) (as := [.inr (.inl (some 1))]) (st' := []) rfl rfl rfl rfl rfl rfl rfl rfl rfl rfl (Nat.zero_le _) rfl (am_CC_le (Nat.le_of_ble_eq_true rfl) (tm_X0_remember h)) (fun r M7 q => ?_) (fun _ _ q => q.elim)
          obtain ⟨rfl, h⟩ := q
          refine am_Wrun 4 (ps := []) (pc' := 74) (lv' := [(0, .inr (.inl (some 0))), (1, .inl (a0)), (2, .inl (a1))]) (st' := [.inl (a1), .inl (a0), .inr (.inl (some 1))]) (M' := M7) rfl trivial ?_
          refine am_WcallV (y := 83) (n := 3) (a := 1) (f := 77) (as := [.inl (a0), .inl (a1)]) (st' := []) rfl rfl rfl rfl rfl rfl rfl rfl rfl rfl (Nat.zero_le _) rfl (am_CC_le (Nat.le_of_ble_eq_true rfl) (tm_X2_insert h)) (fun r M9 q => ?_) (fun _ _ q => q.elim)
          obtain ⟨x8, rfl, h⟩ := q
          refine am_Wrun 2 (ps := []) (pc' := 79) (lv' := [(3, .inl (x8)), (0, .inr (.inl (some 0))), (1, .inl (a0)), (2, .inl (a1))]) (st' := [.inr (.inl (some 0))]) (M' := M9) rfl trivial ?_
          refine am_WcallV (y := 39) (n := 1) (a := 0) (f := 82) (as := []) (st' := []) rfl rfl rfl rfl rfl rfl rfl rfl rfl rfl (Nat.zero_le _) rfl (am_CC_le (Nat.le_of_ble_eq_true rfl) (tm_X5_pointsChanged h)) (fun r M10 q => ?_) (fun _ _ q => q.elim)
          obtain ⟨rfl, h⟩ := q
          refine am_Wrun 1 (ps := []) (pc' := 83) (lv' := [(3, .inl (x8)), (0, .inr (.inl (some 0))), (1, .inl (a0)), (2, .inl (a1))]) (st' := [.inl (x8)]) (M' := M10) rfl trivial ?_
          exact am_Wreti rfl rfl h
        · have h := hf q
          refine am_W_sub [] rfl ?_
          exact tj_X5_add_47 hX  M6 h
    · have h := hf q
      refine am_W_sub [] rfl ?_
      exact tj_X5_add_14 hX  M4 h
abbrev dt_X5_keep : am_D := (tk_X5_keep, 5, 2, some .int, tb_hn 85)
def wp_X5_keep (a0 : Int) (M : am_M) (Q : Int → am_M → Prop) (X : am_X) : Prop := wp_X5_refuseNoPoint a0 M (fun M1 => wp_X2_isKept a0 M1 (fun x2 M3 => (am_rg x2) ∧ (x2 = 0 → wp_X0_remember M3 (fun M4 => (0 ≤ (a0 : Int) ∧ (a0 : Int) < 60) ∧ (wp_X2_keptPoints (am_up M4 4 a0 1) (fun x5 M6 => Q x5 M6)))) ∧ (¬ x2 = 0 → X 1 M3))) X
set_option maxRecDepth 20000 in
theorem tm_X5_keep {a0 : Int} {M : am_M} {Q : Int → am_M → Prop} {X : am_X} (h : wp_X5_keep a0 M Q X) : am_CC 7 85 [.inr (.inl (some 0)), .inl (a0)] M (am_QI Q) X := by
  refine ⟨Nat.le_of_ble_eq_true rfl, ?_⟩
  show am_W (am_CC 6) dt_X5_keep 6 0 none (am_QI Q) (am_qx 85 X) (0, 0, [(0, .inr (.inl (some 0))), (1, .inl (a0))], [], M)
  have hX : ∀ E M, X E M → am_qx 85 X E M := fun E M q => ⟨⟨rfl, by decide⟩, q⟩
  refine am_Wrun 2 (ps := []) (pc' := 2) (lv' := [(0, .inr (.inl (some 0))), (1, .inl (a0))]) (st' := [.inl (a0), .inr (.inl (some 0))]) (M' := M) rfl trivial ?_
  refine am_WcallV (y := 67) (n := 2) (a := 0) (f := 5) (as := [.inl (a0)]) (st' := []) rfl rfl rfl rfl rfl rfl rfl rfl rfl rfl (Nat.zero_le _) rfl (am_CC_le (Nat.le_of_ble_eq_true rfl) (tm_X5_refuseNoPoint h)) (fun r M1 q => ?_) (fun E M q => hX _ _ q)
  obtain ⟨rfl, h⟩ := q
  refine am_Wrun 3 (ps := []) (pc' := 10) (lv' := [(0, .inr (.inl (some 0))), (1, .inl (a0))]) (st' := [.inl (a0), .inr (.inl (some 1))]) (M' := M1) rfl trivial ?_
  refine am_WcallV (y := 8) (n := 2) (a := 1) (f := 13) (as := [.inl (a0)]) (st' := []) rfl rfl rfl rfl rfl rfl rfl rfl rfl rfl (Nat.zero_le _) rfl (am_CC_le (Nat.le_of_ble_eq_true rfl) (tm_X2_isKept h)) (fun r M3 q => ?_) (fun _ _ q => q.elim)
  obtain ⟨x2, rfl, h⟩ := q
  obtain ⟨b0, ht, hf⟩ := h
  refine am_Wbr (P := [am_rg x2]) (c := x2 = 0) (t := 26) (f := 16) (st' := []) rfl rfl ⟨b0, trivial⟩ rfl (fun q => ?_) (fun q => ?_)
  · have h := ht q
    refine am_Wrun 4 (ps := []) (pc' := 34) (lv' := [(0, .inr (.inl (some 0))), (1, .inl (a0))]) (st' := [.inr (.inl (some 1)), .inr (.inl (some 14))]) (M' := M3) rfl trivial ?_
    refine am_WcallV (y := 1) (n := 2) (a := 14) (f := 37) (as := [.inr (.inl (some 1))]) (st' := []) rfl rfl rfl rfl rfl rfl rfl rfl rfl rfl (Nat.zero_le _) rfl (am_CC_le (Nat.le_of_ble_eq_true rfl) (tm_X0_remember h)) (fun r M4 q => ?_) (fun _ _ q => q.elim)
    obtain ⟨rfl, h⟩ := q
    obtain ⟨c0_0, h⟩ := h
    refine am_Wrun 8 (ps := [0 ≤ (a0 : Int) ∧ (a0 : Int) < 60]) (pc' := 51) (lv' := [(0, .inr (.inl (some 0))), (1, .inl (a0))]) (st' := [.inr (.inl (some 1))]) (M' := (am_up M4 4 a0 1)) rfl ⟨c0_0, trivial⟩ ?_
    refine am_WcallV (y := 5) (n := 1) (a := 1) (f := 54) (as := []) (st' := []) rfl rfl rfl rfl rfl rfl rfl rfl rfl rfl (Nat.zero_le _) rfl (am_CC_le (Nat.le_of_ble_eq_true rfl) (tm_X2_keptPoints h)) (fun r M6 q => ?_) (fun _ _ q => q.elim)
    obtain ⟨x5, rfl, h⟩ := q
    exact am_Wreti rfl rfl h
  · have h := hf q
    exact am_Wthr (is := 113) (ic := 77) (E := 1) rfl (Nat.le_of_ble_eq_true rfl) rfl rfl rfl rfl (Or.inl ⟨rfl, rfl, rfl⟩) (hX _ _ h)
abbrev dt_X5_drop : am_D := (tk_X5_drop, 5, 2, some .int, tb_hn 84)
def wp_X5_drop (a0 : Int) (M : am_M) (Q : Int → am_M → Prop) (X : am_X) : Prop := wp_X5_refuseNoPoint a0 M (fun M1 => wp_X1_reasonToKeep a0 M1 (fun x2 M3 => (am_rg x2) ∧ (x2 = 0 → wp_X0_remember M3 (fun M4 => (0 ≤ (a0 : Int) ∧ (a0 : Int) < 60) ∧ (wp_X2_keptPoints (am_up M4 4 a0 0) (fun x5 M6 => Q x5 M6)))) ∧ (¬ x2 = 0 → X 1 M3))) X
set_option maxRecDepth 20000 in
theorem tm_X5_drop {a0 : Int} {M : am_M} {Q : Int → am_M → Prop} {X : am_X} (h : wp_X5_drop a0 M Q X) : am_CC 7 84 [.inr (.inl (some 0)), .inl (a0)] M (am_QI Q) X := by
  refine ⟨Nat.le_of_ble_eq_true rfl, ?_⟩
  show am_W (am_CC 6) dt_X5_drop 6 0 none (am_QI Q) (am_qx 84 X) (0, 0, [(0, .inr (.inl (some 0))), (1, .inl (a0))], [], M)
  have hX : ∀ E M, X E M → am_qx 84 X E M := fun E M q => ⟨⟨rfl, by decide⟩, q⟩
  refine am_Wrun 2 (ps := []) (pc' := 2) (lv' := [(0, .inr (.inl (some 0))), (1, .inl (a0))]) (st' := [.inl (a0), .inr (.inl (some 0))]) (M' := M) rfl trivial ?_
  refine am_WcallV (y := 67) (n := 2) (a := 0) (f := 5) (as := [.inl (a0)]) (st' := []) rfl rfl rfl rfl rfl rfl rfl rfl rfl rfl (Nat.zero_le _) rfl (am_CC_le (Nat.le_of_ble_eq_true rfl) (tm_X5_refuseNoPoint h)) (fun r M1 q => ?_) (fun E M q => hX _ _ q)
  obtain ⟨rfl, h⟩ := q
  refine am_Wrun 3 (ps := []) (pc' := 10) (lv' := [(0, .inr (.inl (some 0))), (1, .inl (a0))]) (st' := [.inl (a0), .inr (.inl (some 9))]) (M' := M1) rfl trivial ?_
  refine am_WcallV (y := 68) (n := 2) (a := 9) (f := 13) (as := [.inl (a0)]) (st' := []) rfl rfl rfl rfl rfl rfl rfl rfl rfl rfl (Nat.zero_le _) rfl (am_CC_le (Nat.le_of_ble_eq_true rfl) (tm_X1_reasonToKeep h)) (fun r M3 q => ?_) (fun _ _ q => q.elim)
  obtain ⟨x2, rfl, h⟩ := q
  obtain ⟨b0, ht, hf⟩ := h
  refine am_Wbr (P := [am_rg x2]) (c := x2 = 0) (t := 26) (f := 16) (st' := []) rfl rfl ⟨b0, trivial⟩ rfl (fun q => ?_) (fun q => ?_)
  · have h := ht q
    refine am_Wrun 4 (ps := []) (pc' := 34) (lv' := [(0, .inr (.inl (some 0))), (1, .inl (a0))]) (st' := [.inr (.inl (some 1)), .inr (.inl (some 14))]) (M' := M3) rfl trivial ?_
    refine am_WcallV (y := 1) (n := 2) (a := 14) (f := 37) (as := [.inr (.inl (some 1))]) (st' := []) rfl rfl rfl rfl rfl rfl rfl rfl rfl rfl (Nat.zero_le _) rfl (am_CC_le (Nat.le_of_ble_eq_true rfl) (tm_X0_remember h)) (fun r M4 q => ?_) (fun _ _ q => q.elim)
    obtain ⟨rfl, h⟩ := q
    obtain ⟨c0_0, h⟩ := h
    refine am_Wrun 8 (ps := [0 ≤ (a0 : Int) ∧ (a0 : Int) < 60]) (pc' := 51) (lv' := [(0, .inr (.inl (some 0))), (1, .inl (a0))]) (st' := [.inr (.inl (some 1))]) (M' := (am_up M4 4 a0 0)) rfl ⟨c0_0, trivial⟩ ?_
    refine am_WcallV (y := 5) (n := 1) (a := 1) (f := 54) (as := []) (st' := []) rfl rfl rfl rfl rfl rfl rfl rfl rfl rfl (Nat.zero_le _) rfl (am_CC_le (Nat.le_of_ble_eq_true rfl) (tm_X2_keptPoints h)) (fun r M6 q => ?_) (fun _ _ q => q.elim)
    obtain ⟨x5, rfl, h⟩ := q
    exact am_Wreti rfl rfl h
  · have h := hf q
    exact am_Wthr (is := 101) (ic := 77) (E := 1) rfl (Nat.le_of_ble_eq_true rfl) rfl rfl rfl rfl (Or.inl ⟨rfl, rfl, rfl⟩) (hX _ _ h)
abbrev dt_X5_refuseNoWay : am_D := (tk_X5_refuseNoWay, 5, 1, none, tb_hn 18)
def wp_X5_refuseNoWay (a0 : Int) (M : am_M) (Q : am_M → Prop) (X : am_X) : Prop := wp_X5_refuseOutside a0 2 M (fun M1 => Q M1) X
set_option maxRecDepth 20000 in
theorem tm_X5_refuseNoWay {a0 : Int} {M : am_M} {Q : am_M → Prop} {X : am_X} (h : wp_X5_refuseNoWay a0 M Q X) : am_CC 7 18 [.inl (a0)] M (am_QV Q) X := by
  refine ⟨Nat.le_of_ble_eq_true rfl, ?_⟩
  show am_W (am_CC 6) dt_X5_refuseNoWay 6 0 none (am_QV Q) (am_qx 18 X) (0, 0, [(0, .inl (a0))], [], M)
  have hX : ∀ E M, X E M → am_qx 18 X E M := fun E M q => ⟨⟨rfl, by decide⟩, q⟩
  refine am_Wrun 2 (ps := []) (pc' := 2) (lv' := [(0, .inl (a0))]) (st' := [.inl (2), .inl (a0)]) (M' := M) rfl trivial ?_
  refine am_WcallS (y := 19) (n := 2) (f := 5) (co := 0) (as := [.inl (a0), .inl (2)]) (st' := []) rfl rfl rfl rfl rfl rfl rfl rfl rfl (Nat.zero_le _) rfl (am_CC_le (Nat.le_of_ble_eq_true rfl) (tm_X5_refuseOutside h)) (fun r M1 q => ?_) (fun E M q => hX _ _ q)
  obtain ⟨rfl, h⟩ := q
  exact am_Wretv rfl rfl h
abbrev dt_X4_joinBehind : am_D := (tk_X4_joinBehind, 4, 6, none, tb_hn 31)
def wj_X4_joinBehind_81 (Q : am_M → Prop) (v4 : Int) (M : am_M) : Prop := wp_X2_hasPoint v4 M (fun x1 M2 => (am_rg x1) ∧ (x1 = 0 → Q M2) ∧ (¬ x1 = 0 → (0 ≤ (v4 : Int) ∧ (v4 : Int) < 60) ∧ (Q (am_up M2 11 v4 1))))
def wl_X4_joinBehind_9 (Q : am_M → Prop) : Nat → Int → Int → Int → Int → Int → am_M → Prop
  | 0, _, _, _, _, _, _ => False
  | n + 1, v1, v2, v3, v4, v5, M => (am_rg v5) ∧ (am_rg (M 1 7)) ∧ ((M 1 7) ≤ v5 → wj_X4_joinBehind_81 Q v4 M) ∧ (¬ (M 1 7) ≤ v5 → wp_X2_sameStretch v1 v5 M (fun x3 M4 => (am_rg x3) ∧ (x3 = 0 → wj_X4_joinBehind_81 Q v4 M4) ∧ (¬ x3 = 0 → wp_X4_cell v1 v5 M4 (fun x5 M6 => (0 ≤ (x5 : Int) ∧ (x5 : Int) < 3600) ∧ ((am_rg (M6 13 x5)) ∧ (am_rg v3) ∧ (v3 < (M6 13 x5) → wl_X4_joinBehind_9 Q n v1 v2 v3 v4 (v5 + 1) M6) ∧ (¬ v3 < (M6 13 x5) → (am_rg v2) ∧ (v2 = 0 → wl_X4_joinBehind_9 Q n v1 v2 v3 v5 (v5 + 1) M6) ∧ (¬ v2 = 0 → (0 ≤ (v5 : Int) ∧ (v5 : Int) < 60) ∧ (0 ≤ (v1 : Int) ∧ (v1 : Int) < 60) ∧ ((am_rg ((M6 12 v5) + 1)) ∧ (am_rg (M6 12 v1)) ∧ (¬ ((M6 12 v5) + 1) = (M6 12 v1) → wl_X4_joinBehind_9 Q n v1 v2 v3 v4 (v5 + 1) M6) ∧ (¬ (¬ ((M6 12 v5) + 1) = (M6 12 v1)) → wl_X4_joinBehind_9 Q n v1 v2 v3 v5 (v5 + 1) M6)))))))))
def wp_X4_joinBehind (a0 : Int) (a1 : Int) (a2 : Int) (M : am_M) (Q : am_M → Prop) : Prop := ∃ e9, wl_X4_joinBehind_9 Q e9 a0 a1 a2 (-1000000) (a0 + 1) M
set_option maxRecDepth 20000 in
theorem tj_X4_joinBehind_81 {Q : am_M → Prop} {QX : am_X} (v4 : Int) (M : am_M) (h : wj_X4_joinBehind_81 Q v4 M) : am_W (am_CC 1) dt_X4_joinBehind 1 0 none (am_QV Q) QX (0, 81, [(0, .inr (.inl (some 10))), (4, .inl (v4))], [], M) := by
  refine am_Wrun 3 (ps := []) (pc' := 87) (lv' := [(0, .inr (.inl (some 10))), (4, .inl (v4))]) (st' := [.inl (v4), .inr (.inl (some 1))]) (M' := M) rfl trivial ?_
  refine am_WcallV (y := 9) (n := 2) (a := 1) (f := 90) (as := [.inl (v4)]) (st' := []) rfl rfl rfl rfl rfl rfl rfl rfl rfl rfl (Nat.zero_le _) rfl (am_CC_le (Nat.le_of_ble_eq_true rfl) (tm_X2_hasPoint h)) (fun r M2 q => ?_) (fun _ _ q => q.elim)
  obtain ⟨x1, rfl, h⟩ := q
  obtain ⟨b0, ht, hf⟩ := h
  refine am_Wbr (P := [am_rg x1]) (c := x1 = 0) (t := 101) (f := 93) (st' := []) rfl rfl ⟨b0, trivial⟩ rfl (fun q => ?_) (fun q => ?_)
  · have h := ht q
    exact am_Wretv rfl rfl h
  · have h := hf q
    obtain ⟨c0_0, h⟩ := h
    refine am_Wrun 5 (ps := [0 ≤ (v4 : Int) ∧ (v4 : Int) < 60]) (pc' := 101) (lv' := [(0, .inr (.inl (some 10))), (4, .inl (v4))]) (st' := []) (M' := (am_up M2 11 v4 1)) rfl ⟨c0_0, trivial⟩ ?_
    exact am_Wretv rfl rfl h
set_option maxRecDepth 20000 in
theorem tw_X4_joinBehind_9 {Q : am_M → Prop} {QX : am_X} : ∀ (n : Nat) (v1 : Int) (v2 : Int) (v3 : Int) (v4 : Int) (v5 : Int) (M : am_M), wl_X4_joinBehind_9 Q n v1 v2 v3 v4 v5 M → am_W (am_CC 1) dt_X4_joinBehind 1 0 none (am_QV Q) QX (0, 9, [(0, .inr (.inl (some 10))), (1, .inl (v1)), (2, .inl (v2)), (3, .inl (v3)), (4, .inl (v4)), (5, .inl (v5))], [], M)
  | 0, _, _, _, _, _, _, h => h.elim
  | n + 1, v1, v2, v3, v4, v5, M, h => by
    refine am_Wrun 4 (ps := []) (pc' := 18) (lv' := [(0, .inr (.inl (some 10))), (1, .inl (v1)), (2, .inl (v2)), (3, .inl (v3)), (4, .inl (v4)), (5, .inl (v5))]) (st' := [.inl (M 1 7), .inl (v5)]) (M' := M) rfl trivial ?_
    obtain ⟨b0, b1, ht, hf⟩ := h
    refine am_Wbr (P := [am_rg v5, am_rg (M 1 7)]) (c := (M 1 7) ≤ v5) (t := 81) (f := 21) (st' := []) rfl rfl ⟨b0, b1, trivial⟩ rfl (fun q => ?_) (fun q => ?_)
    · have h := ht q
      refine am_W_sub [0, 4] rfl ?_
      exact tj_X4_joinBehind_81 v4 M h
    · have h := hf q
      refine am_Wrun 4 (ps := []) (pc' := 28) (lv' := [(0, .inr (.inl (some 10))), (1, .inl (v1)), (2, .inl (v2)), (3, .inl (v3)), (4, .inl (v4)), (5, .inl (v5))]) (st' := [.inl (v5), .inl (v1), .inr (.inl (some 1))]) (M' := M) rfl trivial ?_
      refine am_WcallV (y := 12) (n := 3) (a := 1) (f := 31) (as := [.inl (v1), .inl (v5)]) (st' := []) rfl rfl rfl rfl rfl rfl rfl rfl rfl rfl (Nat.zero_le _) rfl (am_CC_le (Nat.le_of_ble_eq_true rfl) (tm_X2_sameStretch h)) (fun r M4 q => ?_) (fun _ _ q => q.elim)
      obtain ⟨x3, rfl, h⟩ := q
      obtain ⟨b0, ht, hf⟩ := h
      refine am_Wbr (P := [am_rg x3]) (c := x3 = 0) (t := 81) (f := 34) (st' := []) rfl rfl ⟨b0, trivial⟩ rfl (fun q => ?_) (fun q => ?_)
      · have h := ht q
        refine am_W_sub [0, 4] rfl ?_
        exact tj_X4_joinBehind_81 v4 M4 h
      · have h := hf q
        refine am_Wrun 4 (ps := []) (pc' := 41) (lv' := [(0, .inr (.inl (some 10))), (1, .inl (v1)), (2, .inl (v2)), (3, .inl (v3)), (4, .inl (v4)), (5, .inl (v5))]) (st' := [.inl (v5), .inl (v1), .inr (.inl (some 13))]) (M' := M4) rfl trivial ?_
        refine am_WcallS (y := 23) (n := 2) (f := 44) (co := 0) (as := [.inl (v1), .inl (v5)]) (st' := [.inr (.inl (some 13))]) rfl rfl rfl rfl rfl rfl rfl rfl rfl (Nat.zero_le _) rfl (am_CC_le (Nat.le_of_ble_eq_true rfl) (tm_X4_cell h)) (fun r M6 q => ?_) (fun _ _ q => q.elim)
        obtain ⟨x5, rfl, h⟩ := q
        obtain ⟨c0_0, h⟩ := h
        refine am_Wrun 2 (ps := [0 ≤ (x5 : Int) ∧ (x5 : Int) < 3600]) (pc' := 46) (lv' := [(0, .inr (.inl (some 10))), (1, .inl (v1)), (2, .inl (v2)), (3, .inl (v3)), (4, .inl (v4)), (5, .inl (v5))]) (st' := [.inl (v3), .inl (M6 13 x5)]) (M' := M6) rfl ⟨c0_0, trivial⟩ ?_
        obtain ⟨b0, b1, ht, hf⟩ := h
        refine am_Wbr (P := [am_rg (M6 13 x5), am_rg v3]) (c := v3 < (M6 13 x5)) (t := 75) (f := 49) (st' := []) rfl rfl ⟨b0, b1, trivial⟩ rfl (fun q => ?_) (fun q => ?_)
        · have h := ht q
          refine am_Wrun 2 (ps := []) (pc' := 9) (lv' := [(5, .inl (v5 + 1)), (0, .inr (.inl (some 10))), (1, .inl (v1)), (2, .inl (v2)), (3, .inl (v3)), (4, .inl (v4))]) (st' := []) (M' := M6) rfl trivial ?_
          refine am_W_sub [1, 2, 3, 4, 5, 0] rfl ?_
          exact tw_X4_joinBehind_9 n v1 v2 v3 v4 (v5 + 1) M6 h
        · have h := hf q
          refine am_Wrun 1 (ps := []) (pc' := 50) (lv' := [(0, .inr (.inl (some 10))), (1, .inl (v1)), (2, .inl (v2)), (3, .inl (v3)), (4, .inl (v4)), (5, .inl (v5))]) (st' := [.inl (v2)]) (M' := M6) rfl trivial ?_
          obtain ⟨b0, ht, hf⟩ := h
          refine am_Wbr (P := [am_rg v2]) (c := v2 = 0) (t := 71) (f := 53) (st' := []) rfl rfl ⟨b0, trivial⟩ rfl (fun q => ?_) (fun q => ?_)
          · have h := ht q
            refine am_Wrun 4 (ps := []) (pc' := 9) (lv' := [(5, .inl (v5 + 1)), (4, .inl (v5)), (0, .inr (.inl (some 10))), (1, .inl (v1)), (2, .inl (v2)), (3, .inl (v3))]) (st' := []) (M' := M6) rfl trivial ?_
            refine am_W_sub [2, 3, 4, 5, 1, 0] rfl ?_
            exact tw_X4_joinBehind_9 n v1 v2 v3 v5 (v5 + 1) M6 h
          · have h := hf q
            obtain ⟨c0_0, c1_0, h⟩ := h
            refine am_Wrun 10 (ps := [0 ≤ (v5 : Int) ∧ (v5 : Int) < 60, 0 ≤ (v1 : Int) ∧ (v1 : Int) < 60]) (pc' := 68) (lv' := [(0, .inr (.inl (some 10))), (1, .inl (v1)), (2, .inl (v2)), (3, .inl (v3)), (4, .inl (v4)), (5, .inl (v5))]) (st' := [.inl (M6 12 v1), .inl ((M6 12 v5) + 1)]) (M' := M6) rfl ⟨c0_0, c1_0, trivial⟩ ?_
            obtain ⟨b0, b1, ht, hf⟩ := h
            refine am_Wbr (P := [am_rg ((M6 12 v5) + 1), am_rg (M6 12 v1)]) (c := ¬ ((M6 12 v5) + 1) = (M6 12 v1)) (t := 75) (f := 71) (st' := []) rfl rfl ⟨b0, b1, trivial⟩ rfl (fun q => ?_) (fun q => ?_)
            · have h := ht q
              refine am_Wrun 2 (ps := []) (pc' := 9) (lv' := [(5, .inl (v5 + 1)), (0, .inr (.inl (some 10))), (1, .inl (v1)), (2, .inl (v2)), (3, .inl (v3)), (4, .inl (v4))]) (st' := []) (M' := M6) rfl trivial ?_
              refine am_W_sub [1, 2, 3, 4, 5, 0] rfl ?_
              exact tw_X4_joinBehind_9 n v1 v2 v3 v4 (v5 + 1) M6 h
            · have h := hf q
              refine am_Wrun 4 (ps := []) (pc' := 9) (lv' := [(5, .inl (v5 + 1)), (4, .inl (v5)), (0, .inr (.inl (some 10))), (1, .inl (v1)), (2, .inl (v2)), (3, .inl (v3))]) (st' := []) (M' := M6) rfl trivial ?_
              refine am_W_sub [2, 3, 4, 5, 1, 0] rfl ?_
              exact tw_X4_joinBehind_9 n v1 v2 v3 v5 (v5 + 1) M6 h
set_option maxRecDepth 20000 in
theorem tm_X4_joinBehind {a0 a1 a2 : Int} {M : am_M} {Q : am_M → Prop} (h : wp_X4_joinBehind a0 a1 a2 M Q) : am_CC 2 31 [.inr (.inl (some 10)), .inl (a0), .inl (a1), .inl (a2)] M (am_QV Q) (fun _ _ => False) := by
  refine ⟨Nat.le_of_ble_eq_true rfl, ?_⟩
  show am_W (am_CC 1) dt_X4_joinBehind 1 0 none (am_QV Q) (am_qx 31 (fun _ _ => False)) (0, 0, [(0, .inr (.inl (some 10))), (1, .inl (a0)), (2, .inl (a1)), (3, .inl (a2))], [], M)
  refine am_Wrun 6 (ps := []) (pc' := 9) (lv' := [(5, .inl (a0 + 1)), (4, .inl ((-1000000))), (0, .inr (.inl (some 10))), (1, .inl (a0)), (2, .inl (a1)), (3, .inl (a2))]) (st' := []) (M' := M) rfl trivial ?_
  refine am_W_sub [2, 3, 4, 5, 1, 0] rfl ?_
  obtain ⟨n9, h⟩ := h
  exact tw_X4_joinBehind_9 n9 a0 a1 a2 (-1000000) (a0 + 1) M h
abbrev dt_X4_chosenBehind : am_D := (tk_X4_chosenBehind, 4, 3, some .int, tb_hn 30)
def wl_X4_chosenBehind_8 (Q : Int → am_M → Prop) : Nat → Int → am_M → Prop
  | 0, _, _ => False
  | n + 1, v2, M => (am_rg v2) ∧ (am_rg (M 1 7)) ∧ ((M 1 7) ≤ v2 → Q (-1000000) M) ∧ (¬ (M 1 7) ≤ v2 → (0 ≤ (v2 : Int) ∧ (v2 : Int) < 60) ∧ ((am_rg (M 11 v2)) ∧ (¬ (M 11 v2) = 1 → wl_X4_chosenBehind_8 Q n (v2 + 1) M) ∧ (¬ (¬ (M 11 v2) = 1) → Q v2 M)))
def wp_X4_chosenBehind (a0 : Int) (M : am_M) (Q : Int → am_M → Prop) : Prop := (am_rg (a0 + 1)) ∧ (∃ e8, wl_X4_chosenBehind_8 Q e8 (if (a0 + 1) < 0 then 0 else (a0 + 1)) M)
set_option maxRecDepth 20000 in
theorem tw_X4_chosenBehind_8 {Q : Int → am_M → Prop} {QX : am_X} : ∀ (n : Nat) (v2 : Int) (M : am_M), wl_X4_chosenBehind_8 Q n v2 M → am_W (am_CC 0) dt_X4_chosenBehind 0 0 none (am_QI Q) QX (0, 8, [(0, .inr (.inl (some 10))), (2, .inl (v2))], [], M)
  | 0, _, _, h => h.elim
  | n + 1, v2, M, h => by
    refine am_Wrun 4 (ps := []) (pc' := 16) (lv' := [(0, .inr (.inl (some 10))), (2, .inl (v2))]) (st' := [.inl (M 1 7), .inl (v2)]) (M' := M) rfl trivial ?_
    obtain ⟨b0, b1, ht, hf⟩ := h
    refine am_Wbr (P := [am_rg v2, am_rg (M 1 7)]) (c := (M 1 7) ≤ v2) (t := 37) (f := 19) (st' := []) rfl rfl ⟨b0, b1, trivial⟩ rfl (fun q => ?_) (fun q => ?_)
    · have h := ht q
      refine am_Wrun 1 (ps := []) (pc' := 39) (lv' := [(0, .inr (.inl (some 10))), (2, .inl (v2))]) (st' := [.inl ((-1000000))]) (M' := M) rfl trivial ?_
      exact am_Wreti rfl rfl h
    · have h := hf q
      obtain ⟨c0_0, h⟩ := h
      refine am_Wrun 5 (ps := [0 ≤ (v2 : Int) ∧ (v2 : Int) < 60]) (pc' := 26) (lv' := [(0, .inr (.inl (some 10))), (2, .inl (v2))]) (st' := [.inl (1), .inl (M 11 v2)]) (M' := M) rfl ⟨c0_0, trivial⟩ ?_
      obtain ⟨b0, ht, hf⟩ := h
      refine am_Wbr (P := [am_rg (M 11 v2), am_rg 1]) (c := ¬ (M 11 v2) = 1) (t := 31) (f := 29) (st' := []) rfl rfl ⟨b0, (am_rgd rfl), trivial⟩ rfl (fun q => ?_) (fun q => ?_)
      · have h := ht q
        refine am_Wrun 2 (ps := []) (pc' := 8) (lv' := [(2, .inl (v2 + 1)), (0, .inr (.inl (some 10)))]) (st' := []) (M' := M) rfl trivial ?_
        refine am_W_sub [1, 0] rfl ?_
        exact tw_X4_chosenBehind_8 n (v2 + 1) M h
      · have h := hf q
        refine am_Wrun 1 (ps := []) (pc' := 30) (lv' := [(0, .inr (.inl (some 10))), (2, .inl (v2))]) (st' := [.inl (v2)]) (M' := M) rfl trivial ?_
        exact am_Wreti rfl rfl h
set_option maxRecDepth 20000 in
theorem tm_X4_chosenBehind {a0 : Int} {M : am_M} {Q : Int → am_M → Prop} (h : wp_X4_chosenBehind a0 M Q) : am_CC 1 30 [.inr (.inl (some 10)), .inl (a0)] M (am_QI Q) (fun _ _ => False) := by
  refine ⟨Nat.le_of_ble_eq_true rfl, ?_⟩
  show am_W (am_CC 0) dt_X4_chosenBehind 0 0 none (am_QI Q) (am_qx 30 (fun _ _ => False)) (0, 0, [(0, .inr (.inl (some 10))), (1, .inl (a0))], [], M)
  obtain ⟨c0_0, h⟩ := h
  refine am_Wrun 6 (ps := [am_rg (a0 + 1) ∧ am_rg 0 ∧ am_cs [] ≤ 8]) (pc' := 8) (lv' := [(2, .inl (if (a0 + 1) < 0 then 0 else (a0 + 1))), (0, .inr (.inl (some 10))), (1, .inl (a0))]) (st' := []) (M' := M) rfl ⟨⟨c0_0, (am_rgd rfl), (by decide)⟩, trivial⟩ ?_
  refine am_W_sub [1, 0] rfl ?_
  obtain ⟨n8, h⟩ := h
  exact tw_X4_chosenBehind_8 n8 (if (a0 + 1) < 0 then 0 else (a0 + 1)) M h
abbrev dt_X4_halveBehind : am_D := (tk_X4_halveBehind, 4, 6, none, tb_hn 29)
def wl_X4_halveBehind_2 (Q : am_M → Prop) : Nat → Int → Int → Int → am_M → Prop
  | 0, _, _, _, _ => False
  | n + 1, v1, v2, v3, M => (am_rg v3) ∧ (60 ≤ v3 → Q M) ∧ (¬ 60 ≤ v3 → wp_X4_chosenBehind v1 M (fun x1 M2 => wp_X2_sameStretch v1 x1 M2 (fun x3 M4 => (am_rg x3) ∧ (x3 = 0 → Q M4) ∧ (¬ x3 = 0 → wp_X4_cell v1 x1 M4 (fun x5 M6 => (0 ≤ (x5 : Int) ∧ (x5 : Int) < 3600) ∧ ((am_rg (M6 13 x5)) ∧ (am_rg v2) ∧ (v2 < (M6 13 x5) → wp_X1_findWorst v1 x1 M6 (fun x7 M8 => wp_X2_hasPoint x7 M8 (fun x9 M10 => (am_rg x9) ∧ (¬ x9 = 0 → (0 ≤ (x7 : Int) ∧ (x7 : Int) < 60) ∧ (wl_X4_halveBehind_2 Q n v1 v2 (v3 + 1) (am_up M10 11 x7 1))) ∧ (¬ (¬ x9 = 0) → Q M10)))) ∧ (¬ v2 < (M6 13 x5) → Q M6)))))))
def wp_X4_halveBehind (a0 : Int) (a1 : Int) (M : am_M) (Q : am_M → Prop) : Prop := ∃ e2, wl_X4_halveBehind_2 Q e2 a0 a1 0 M
set_option maxRecDepth 20000 in
theorem tw_X4_halveBehind_2 {Q : am_M → Prop} {QX : am_X} : ∀ (n : Nat) (v1 : Int) (v2 : Int) (v3 : Int) (M : am_M), wl_X4_halveBehind_2 Q n v1 v2 v3 M → am_W (am_CC 2) dt_X4_halveBehind 2 0 none (am_QV Q) QX (0, 2, [(0, .inr (.inl (some 10))), (1, .inl (v1)), (2, .inl (v2)), (3, .inl (v3))], [], M)
  | 0, _, _, _, _, h => h.elim
  | n + 1, v1, v2, v3, M, h => by
    refine am_Wrun 2 (ps := [-128 ≤ (60 : Int) ∧ (60 : Int) ≤ 127]) (pc' := 5) (lv' := [(0, .inr (.inl (some 10))), (1, .inl (v1)), (2, .inl (v2)), (3, .inl (v3))]) (st' := [.inl (60), .inl (v3)]) (M' := M) rfl ⟨⟨by decide, by decide⟩, trivial⟩ ?_
    obtain ⟨b0, ht, hf⟩ := h
    refine am_Wbr (P := [am_rg v3, am_rg 60]) (c := 60 ≤ v3) (t := 83) (f := 8) (st' := []) rfl rfl ⟨b0, (am_rgd rfl), trivial⟩ rfl (fun q => ?_) (fun q => ?_)
    · have h := ht q
      exact am_Wretv rfl rfl h
    · have h := hf q
      refine am_Wrun 2 (ps := []) (pc' := 10) (lv' := [(0, .inr (.inl (some 10))), (1, .inl (v1)), (2, .inl (v2)), (3, .inl (v3))]) (st' := [.inl (v1), .inr (.inl (some 10))]) (M' := M) rfl trivial ?_
      refine am_WcallV (y := 30) (n := 2) (a := 10) (f := 13) (as := [.inl (v1)]) (st' := []) rfl rfl rfl rfl rfl rfl rfl rfl rfl rfl (Nat.zero_le _) rfl (am_CC_le (Nat.le_of_ble_eq_true rfl) (tm_X4_chosenBehind h)) (fun r M2 q => ?_) (fun _ _ q => q.elim)
      obtain ⟨x1, rfl, h⟩ := q
      refine am_Wrun 5 (ps := []) (pc' := 22) (lv' := [(4, .inl (x1)), (0, .inr (.inl (some 10))), (1, .inl (v1)), (2, .inl (v2)), (3, .inl (v3))]) (st' := [.inl (x1), .inl (v1), .inr (.inl (some 1))]) (M' := M2) rfl trivial ?_
      refine am_WcallV (y := 12) (n := 3) (a := 1) (f := 25) (as := [.inl (v1), .inl (x1)]) (st' := []) rfl rfl rfl rfl rfl rfl rfl rfl rfl rfl (Nat.zero_le _) rfl (am_CC_le (Nat.le_of_ble_eq_true rfl) (tm_X2_sameStretch h)) (fun r M4 q => ?_) (fun _ _ q => q.elim)
      obtain ⟨x3, rfl, h⟩ := q
      obtain ⟨b0, ht, hf⟩ := h
      refine am_Wbr (P := [am_rg x3]) (c := x3 = 0) (t := 43) (f := 28) (st' := []) rfl rfl ⟨b0, trivial⟩ rfl (fun q => ?_) (fun q => ?_)
      · have h := ht q
        exact am_Wretv rfl rfl h
      · have h := hf q
        refine am_Wrun 4 (ps := []) (pc' := 35) (lv' := [(4, .inl (x1)), (0, .inr (.inl (some 10))), (1, .inl (v1)), (2, .inl (v2)), (3, .inl (v3))]) (st' := [.inl (x1), .inl (v1), .inr (.inl (some 13))]) (M' := M4) rfl trivial ?_
        refine am_WcallS (y := 23) (n := 2) (f := 38) (co := 0) (as := [.inl (v1), .inl (x1)]) (st' := [.inr (.inl (some 13))]) rfl rfl rfl rfl rfl rfl rfl rfl rfl (Nat.zero_le _) rfl (am_CC_le (Nat.le_of_ble_eq_true rfl) (tm_X4_cell h)) (fun r M6 q => ?_) (fun _ _ q => q.elim)
        obtain ⟨x5, rfl, h⟩ := q
        obtain ⟨c0_0, h⟩ := h
        refine am_Wrun 2 (ps := [0 ≤ (x5 : Int) ∧ (x5 : Int) < 3600]) (pc' := 40) (lv' := [(4, .inl (x1)), (0, .inr (.inl (some 10))), (1, .inl (v1)), (2, .inl (v2)), (3, .inl (v3))]) (st' := [.inl (v2), .inl (M6 13 x5)]) (M' := M6) rfl ⟨c0_0, trivial⟩ ?_
        obtain ⟨b0, b1, ht, hf⟩ := h
        refine am_Wbr (P := [am_rg (M6 13 x5), am_rg v2]) (c := v2 < (M6 13 x5)) (t := 44) (f := 43) (st' := []) rfl rfl ⟨b0, b1, trivial⟩ rfl (fun q => ?_) (fun q => ?_)
        · have h := ht q
          refine am_Wrun 4 (ps := []) (pc' := 51) (lv' := [(4, .inl (x1)), (0, .inr (.inl (some 10))), (1, .inl (v1)), (2, .inl (v2)), (3, .inl (v3))]) (st' := [.inl (x1), .inl (v1), .inr (.inl (some 9))]) (M' := M6) rfl trivial ?_
          refine am_WcallV (y := 22) (n := 3) (a := 9) (f := 54) (as := [.inl (v1), .inl (x1)]) (st' := []) rfl rfl rfl rfl rfl rfl rfl rfl rfl rfl (Nat.zero_le _) rfl (am_CC_le (Nat.le_of_ble_eq_true rfl) (tm_X1_findWorst h)) (fun r M8 q => ?_) (fun _ _ q => q.elim)
          obtain ⟨x7, rfl, h⟩ := q
          refine am_Wrun 4 (ps := []) (pc' := 62) (lv' := [(5, .inl (x7)), (4, .inl (x1)), (0, .inr (.inl (some 10))), (1, .inl (v1)), (2, .inl (v2)), (3, .inl (v3))]) (st' := [.inl (x7), .inr (.inl (some 1))]) (M' := M8) rfl trivial ?_
          refine am_WcallV (y := 9) (n := 2) (a := 1) (f := 65) (as := [.inl (x7)]) (st' := []) rfl rfl rfl rfl rfl rfl rfl rfl rfl rfl (Nat.zero_le _) rfl (am_CC_le (Nat.le_of_ble_eq_true rfl) (tm_X2_hasPoint h)) (fun r M10 q => ?_) (fun _ _ q => q.elim)
          obtain ⟨x9, rfl, h⟩ := q
          obtain ⟨b0, ht, hf⟩ := h
          refine am_Wbr (P := [am_rg x9]) (c := ¬ x9 = 0) (t := 69) (f := 68) (st' := []) rfl rfl ⟨b0, trivial⟩ rfl (fun q => ?_) (fun q => ?_)
          · have h := ht q
            obtain ⟨c0_0, h⟩ := h
            refine am_Wrun 7 (ps := [0 ≤ (x7 : Int) ∧ (x7 : Int) < 60]) (pc' := 2) (lv' := [(3, .inl (v3 + 1)), (5, .inl (x7)), (4, .inl (x1)), (0, .inr (.inl (some 10))), (1, .inl (v1)), (2, .inl (v2))]) (st' := []) (M' := (am_up M10 11 x7 1)) rfl ⟨c0_0, trivial⟩ ?_
            refine am_W_sub [3, 4, 5, 0] rfl ?_
            exact tw_X4_halveBehind_2 n v1 v2 (v3 + 1) (am_up M10 11 x7 1) h
          · have h := hf q
            exact am_Wretv rfl rfl h
        · have h := hf q
          exact am_Wretv rfl rfl h
set_option maxRecDepth 20000 in
theorem tm_X4_halveBehind {a0 a1 : Int} {M : am_M} {Q : am_M → Prop} (h : wp_X4_halveBehind a0 a1 M Q) : am_CC 3 29 [.inr (.inl (some 10)), .inl (a0), .inl (a1)] M (am_QV Q) (fun _ _ => False) := by
  refine ⟨Nat.le_of_ble_eq_true rfl, ?_⟩
  show am_W (am_CC 2) dt_X4_halveBehind 2 0 none (am_QV Q) (am_qx 29 (fun _ _ => False)) (0, 0, [(0, .inr (.inl (some 10))), (1, .inl (a0)), (2, .inl (a1))], [], M)
  refine am_Wrun 2 (ps := []) (pc' := 2) (lv' := [(3, .inl (0)), (0, .inr (.inl (some 10))), (1, .inl (a0)), (2, .inl (a1))]) (st' := []) (M' := M) rfl trivial ?_
  refine am_W_sub [1, 2, 3, 0] rfl ?_
  obtain ⟨n2, h⟩ := h
  exact tw_X4_halveBehind_2 n2 a0 a1 0 M h
abbrev dt_X2_endsStretch : am_D := (tk_X2_endsStretch, 2, 2, some .boolean, tb_hn 28)
def wp_X2_endsStretch (a0 : Int) (M : am_M) (Q : Int → am_M → Prop) : Prop := wp_X2_sameStretch a0 (a0 + 1) M (fun x1 M2 => (am_rg x1) ∧ (¬ x1 = 0 → Q 0 M2) ∧ (¬ (¬ x1 = 0) → Q 1 M2))
set_option maxRecDepth 20000 in
theorem tm_X2_endsStretch {a0 : Int} {M : am_M} {Q : Int → am_M → Prop} (h : wp_X2_endsStretch a0 M Q) : am_CC 2 28 [.inr (.inl (some 1)), .inl (a0)] M (am_QI Q) (fun _ _ => False) := by
  refine ⟨Nat.le_of_ble_eq_true rfl, ?_⟩
  show am_W (am_CC 1) dt_X2_endsStretch 1 0 none (am_QI Q) (am_qx 28 (fun _ _ => False)) (0, 0, [(0, .inr (.inl (some 1))), (1, .inl (a0))], [], M)
  refine am_Wrun 5 (ps := []) (pc' := 5) (lv' := [(0, .inr (.inl (some 1))), (1, .inl (a0))]) (st' := [.inl (a0 + 1), .inl (a0), .inr (.inl (some 1))]) (M' := M) rfl trivial ?_
  refine am_WcallV (y := 12) (n := 3) (a := 1) (f := 8) (as := [.inl (a0), .inl (a0 + 1)]) (st' := []) rfl rfl rfl rfl rfl rfl rfl rfl rfl rfl (Nat.zero_le _) rfl (am_CC_le (Nat.le_of_ble_eq_true rfl) (tm_X2_sameStretch h)) (fun r M2 q => ?_) (fun _ _ q => q.elim)
  obtain ⟨x1, rfl, h⟩ := q
  obtain ⟨b0, ht, hf⟩ := h
  refine am_Wbr (P := [am_rg x1]) (c := ¬ x1 = 0) (t := 15) (f := 11) (st' := []) rfl rfl ⟨b0, trivial⟩ rfl (fun q => ?_) (fun q => ?_)
  · have h := ht q
    refine am_Wrun 1 (ps := []) (pc' := 16) (lv' := [(0, .inr (.inl (some 1))), (1, .inl (a0))]) (st' := [.inl (0)]) (M' := M2) rfl trivial ?_
    exact am_Wretz rfl rfl (Or.inl rfl) h
  · have h := hf q
    refine am_Wrun 2 (ps := []) (pc' := 16) (lv' := [(0, .inr (.inl (some 1))), (1, .inl (a0))]) (st' := [.inl (1)]) (M' := M2) rfl trivial ?_
    exact am_Wretz rfl rfl (Or.inr rfl) h
abbrev dt_X4_choose : am_D := (tk_X4_choose, 4, 5, some .int, tb_hn 20)
def wl_X4_choose_82 (Q : Int → am_M → Prop) : Nat → Int → Int → Int → Int → am_M → Prop
  | 0, _, _, _, _, _ => False
  | n + 1, v1, v2, v3, v4, M => (am_rg v4) ∧ (am_rg (M 1 7)) ∧ ((M 1 7) ≤ v4 → Q v3 M) ∧ (¬ (M 1 7) ≤ v4 → (0 ≤ (v4 : Int) ∧ (v4 : Int) < 60) ∧ ((am_rg (M 11 v4)) ∧ (¬ (M 11 v4) = 1 → wl_X4_choose_82 Q n v1 v2 v3 (v4 + 1) M) ∧ (¬ (¬ (M 11 v4) = 1) → (am_rg v1) ∧ (¬ v1 = 1 → wp_X4_joinBehind v4 v1 v2 M (fun M2 => wl_X4_choose_82 Q n v1 v2 (v3 + 1) (v4 + 1) M2)) ∧ (¬ (¬ v1 = 1) → wp_X4_halveBehind v4 v2 M (fun M3 => wl_X4_choose_82 Q n v1 v2 (v3 + 1) (v4 + 1) M3)))))
def wl_X4_choose_27 (Q : Int → am_M → Prop) : Nat → Int → Int → Int → am_M → Prop
  | 0, _, _, _, _ => False
  | n + 1, v1, v2, v3, M => (am_rg v3) ∧ (am_rg (M 1 7)) ∧ ((M 1 7) ≤ v3 → ∃ e82, wl_X4_choose_82 Q e82 v1 v2 0 0 M) ∧ (¬ (M 1 7) ≤ v3 → wp_X2_beginsStretch v3 M (fun x4 M5 => (am_rg x4) ∧ (¬ x4 = 0 → (0 ≤ (v3 : Int) ∧ (v3 : Int) < 60) ∧ (wl_X4_choose_27 Q n v1 v2 (v3 + 1) (am_up M5 11 v3 1))) ∧ (¬ (¬ x4 = 0) → wp_X2_endsStretch v3 M5 (fun x6 M7 => (am_rg x6) ∧ (x6 = 0 → (0 ≤ (v3 : Int) ∧ (v3 : Int) < 60) ∧ (wl_X4_choose_27 Q n v1 v2 (v3 + 1) (am_up M7 11 v3 0))) ∧ (¬ x6 = 0 → (0 ≤ (v3 : Int) ∧ (v3 : Int) < 60) ∧ (wl_X4_choose_27 Q n v1 v2 (v3 + 1) (am_up M7 11 v3 1)))))))
def wp_X4_choose (a0 : Int) (M : am_M) (Q : Int → am_M → Prop) : Prop := wp_X4_findNeeds M (fun M1 => (am_rg a0) ∧ (¬ a0 = 2 → ∃ e27, wl_X4_choose_27 Q e27 a0 (M1 6 0) 0 M1) ∧ (¬ (¬ a0 = 2) → wp_X4_findFewest (M1 6 0) M1 (fun x8 M9 => ∃ e27, wl_X4_choose_27 Q e27 a0 (M1 6 0) 0 M9)))
set_option maxRecDepth 20000 in
theorem tw_X4_choose_82 {Q : Int → am_M → Prop} {QX : am_X} : ∀ (n : Nat) (v1 : Int) (v2 : Int) (v3 : Int) (v4 : Int) (M : am_M), wl_X4_choose_82 Q n v1 v2 v3 v4 M → am_W (am_CC 3) dt_X4_choose 3 0 none (am_QI Q) QX (0, 82, [(0, .inr (.inl (some 10))), (1, .inl (v1)), (2, .inl (v2)), (3, .inl (v3)), (4, .inl (v4))], [], M)
  | 0, _, _, _, _, _, h => h.elim
  | n + 1, v1, v2, v3, v4, M, h => by
    refine am_Wrun 4 (ps := []) (pc' := 91) (lv' := [(0, .inr (.inl (some 10))), (1, .inl (v1)), (2, .inl (v2)), (3, .inl (v3)), (4, .inl (v4))]) (st' := [.inl (M 1 7), .inl (v4)]) (M' := M) rfl trivial ?_
    obtain ⟨b0, b1, ht, hf⟩ := h
    refine am_Wbr (P := [am_rg v4, am_rg (M 1 7)]) (c := (M 1 7) ≤ v4) (t := 137) (f := 94) (st' := []) rfl rfl ⟨b0, b1, trivial⟩ rfl (fun q => ?_) (fun q => ?_)
    · have h := ht q
      refine am_Wrun 1 (ps := []) (pc' := 138) (lv' := [(0, .inr (.inl (some 10))), (1, .inl (v1)), (2, .inl (v2)), (3, .inl (v3)), (4, .inl (v4))]) (st' := [.inl (v3)]) (M' := M) rfl trivial ?_
      exact am_Wreti rfl rfl h
    · have h := hf q
      obtain ⟨c0_0, h⟩ := h
      refine am_Wrun 5 (ps := [0 ≤ (v4 : Int) ∧ (v4 : Int) < 60]) (pc' := 102) (lv' := [(0, .inr (.inl (some 10))), (1, .inl (v1)), (2, .inl (v2)), (3, .inl (v3)), (4, .inl (v4))]) (st' := [.inl (1), .inl (M 11 v4)]) (M' := M) rfl ⟨c0_0, trivial⟩ ?_
      obtain ⟨b0, ht, hf⟩ := h
      refine am_Wbr (P := [am_rg (M 11 v4), am_rg 1]) (c := ¬ (M 11 v4) = 1) (t := 131) (f := 105) (st' := []) rfl rfl ⟨b0, (am_rgd rfl), trivial⟩ rfl (fun q => ?_) (fun q => ?_)
      · have h := ht q
        refine am_Wrun 2 (ps := []) (pc' := 82) (lv' := [(4, .inl (v4 + 1)), (0, .inr (.inl (some 10))), (1, .inl (v1)), (2, .inl (v2)), (3, .inl (v3))]) (st' := []) (M' := M) rfl trivial ?_
        refine am_W_sub [1, 2, 3, 4, 0] rfl ?_
        exact tw_X4_choose_82 n v1 v2 v3 (v4 + 1) M h
      · have h := hf q
        refine am_Wrun 3 (ps := []) (pc' := 110) (lv' := [(3, .inl (v3 + 1)), (0, .inr (.inl (some 10))), (1, .inl (v1)), (2, .inl (v2)), (4, .inl (v4))]) (st' := [.inl (1), .inl (v1)]) (M' := M) rfl trivial ?_
        obtain ⟨b0, ht, hf⟩ := h
        refine am_Wbr (P := [am_rg v1, am_rg 1]) (c := ¬ v1 = 1) (t := 123) (f := 113) (st' := []) rfl rfl ⟨b0, (am_rgd rfl), trivial⟩ rfl (fun q => ?_) (fun q => ?_)
        · have h := ht q
          refine am_Wrun 4 (ps := []) (pc' := 128) (lv' := [(3, .inl (v3 + 1)), (0, .inr (.inl (some 10))), (1, .inl (v1)), (2, .inl (v2)), (4, .inl (v4))]) (st' := [.inl (v2), .inl (v1), .inl (v4), .inr (.inl (some 10))]) (M' := M) rfl trivial ?_
          refine am_WcallV (y := 31) (n := 4) (a := 10) (f := 131) (as := [.inl (v4), .inl (v1), .inl (v2)]) (st' := []) rfl rfl rfl rfl rfl rfl rfl rfl rfl rfl (Nat.zero_le _) rfl (am_CC_le (Nat.le_of_ble_eq_true rfl) (tm_X4_joinBehind h)) (fun r M2 q => ?_) (fun _ _ q => q.elim)
          obtain ⟨rfl, h⟩ := q
          refine am_Wrun 2 (ps := []) (pc' := 82) (lv' := [(4, .inl (v4 + 1)), (3, .inl (v3 + 1)), (0, .inr (.inl (some 10))), (1, .inl (v1)), (2, .inl (v2))]) (st' := []) (M' := M2) rfl trivial ?_
          refine am_W_sub [2, 3, 4, 1, 0] rfl ?_
          exact tw_X4_choose_82 n v1 v2 (v3 + 1) (v4 + 1) M2 h
        · have h := hf q
          refine am_Wrun 3 (ps := []) (pc' := 117) (lv' := [(3, .inl (v3 + 1)), (0, .inr (.inl (some 10))), (1, .inl (v1)), (2, .inl (v2)), (4, .inl (v4))]) (st' := [.inl (v2), .inl (v4), .inr (.inl (some 10))]) (M' := M) rfl trivial ?_
          refine am_WcallV (y := 29) (n := 3) (a := 10) (f := 120) (as := [.inl (v4), .inl (v2)]) (st' := []) rfl rfl rfl rfl rfl rfl rfl rfl rfl rfl (Nat.zero_le _) rfl (am_CC_le (Nat.le_of_ble_eq_true rfl) (tm_X4_halveBehind h)) (fun r M3 q => ?_) (fun _ _ q => q.elim)
          obtain ⟨rfl, h⟩ := q
          refine am_Wrun 3 (ps := []) (pc' := 82) (lv' := [(4, .inl (v4 + 1)), (3, .inl (v3 + 1)), (0, .inr (.inl (some 10))), (1, .inl (v1)), (2, .inl (v2))]) (st' := []) (M' := M3) rfl trivial ?_
          refine am_W_sub [2, 3, 4, 1, 0] rfl ?_
          exact tw_X4_choose_82 n v1 v2 (v3 + 1) (v4 + 1) M3 h
set_option maxRecDepth 20000 in
theorem tw_X4_choose_27 {Q : Int → am_M → Prop} {QX : am_X} : ∀ (n : Nat) (v1 : Int) (v2 : Int) (v3 : Int) (M : am_M), wl_X4_choose_27 Q n v1 v2 v3 M → am_W (am_CC 3) dt_X4_choose 3 0 none (am_QI Q) QX (0, 27, [(0, .inr (.inl (some 10))), (1, .inl (v1)), (2, .inl (v2)), (3, .inl (v3))], [], M)
  | 0, _, _, _, _, h => h.elim
  | n + 1, v1, v2, v3, M, h => by
    refine am_Wrun 4 (ps := []) (pc' := 35) (lv' := [(0, .inr (.inl (some 10))), (1, .inl (v1)), (2, .inl (v2)), (3, .inl (v3))]) (st' := [.inl (M 1 7), .inl (v3)]) (M' := M) rfl trivial ?_
    obtain ⟨b0, b1, ht, hf⟩ := h
    refine am_Wbr (P := [am_rg v3, am_rg (M 1 7)]) (c := (M 1 7) ≤ v3) (t := 77) (f := 38) (st' := []) rfl rfl ⟨b0, b1, trivial⟩ rfl (fun q => ?_) (fun q => ?_)
    · have h := ht q
      refine am_Wrun 4 (ps := []) (pc' := 82) (lv' := [(4, .inl (0)), (3, .inl (0)), (0, .inr (.inl (some 10))), (1, .inl (v1)), (2, .inl (v2))]) (st' := []) (M' := M) rfl trivial ?_
      refine am_W_sub [2, 3, 4, 1, 0] rfl ?_
      obtain ⟨n82, h⟩ := h
      exact tw_X4_choose_82 n82 v1 v2 0 0 M h
    · have h := hf q
      refine am_Wrun 6 (ps := []) (pc' := 48) (lv' := [(0, .inr (.inl (some 10))), (1, .inl (v1)), (2, .inl (v2)), (3, .inl (v3))]) (st' := [.inl (v3), .inr (.inl (some 1)), .inl (v3), .inr (.inl (some 11))]) (M' := M) rfl trivial ?_
      refine am_WcallV (y := 27) (n := 2) (a := 1) (f := 51) (as := [.inl (v3)]) (st' := [.inl (v3), .inr (.inl (some 11))]) rfl rfl rfl rfl rfl rfl rfl rfl rfl rfl (Nat.zero_le _) rfl (am_CC_le (Nat.le_of_ble_eq_true rfl) (tm_X2_beginsStretch h)) (fun r M5 q => ?_) (fun _ _ q => q.elim)
      obtain ⟨x4, rfl, h⟩ := q
      obtain ⟨b0, ht, hf⟩ := h
      refine am_Wbr (P := [am_rg x4]) (c := ¬ x4 = 0) (t := 65) (f := 54) (st' := [.inl (v3), .inr (.inl (some 11))]) rfl rfl ⟨b0, trivial⟩ rfl (fun q => ?_) (fun q => ?_)
      · have h := ht q
        obtain ⟨c0_0, h⟩ := h
        refine am_Wrun 5 (ps := [0 ≤ (v3 : Int) ∧ (v3 : Int) < 60]) (pc' := 27) (lv' := [(3, .inl (v3 + 1)), (0, .inr (.inl (some 10))), (1, .inl (v1)), (2, .inl (v2))]) (st' := []) (M' := (am_up M5 11 v3 1)) rfl ⟨c0_0, trivial⟩ ?_
        refine am_W_sub [1, 2, 3, 0] rfl ?_
        exact tw_X4_choose_27 n v1 v2 (v3 + 1) (am_up M5 11 v3 1) h
      · have h := hf q
        refine am_Wrun 3 (ps := []) (pc' := 59) (lv' := [(0, .inr (.inl (some 10))), (1, .inl (v1)), (2, .inl (v2)), (3, .inl (v3))]) (st' := [.inl (v3), .inr (.inl (some 1)), .inl (v3), .inr (.inl (some 11))]) (M' := M5) rfl trivial ?_
        refine am_WcallV (y := 28) (n := 2) (a := 1) (f := 62) (as := [.inl (v3)]) (st' := [.inl (v3), .inr (.inl (some 11))]) rfl rfl rfl rfl rfl rfl rfl rfl rfl rfl (Nat.zero_le _) rfl (am_CC_le (Nat.le_of_ble_eq_true rfl) (tm_X2_endsStretch h)) (fun r M7 q => ?_) (fun _ _ q => q.elim)
        obtain ⟨x6, rfl, h⟩ := q
        obtain ⟨b0, ht, hf⟩ := h
        refine am_Wbr (P := [am_rg x6]) (c := x6 = 0) (t := 69) (f := 65) (st' := [.inl (v3), .inr (.inl (some 11))]) rfl rfl ⟨b0, trivial⟩ rfl (fun q => ?_) (fun q => ?_)
        · have h := ht q
          obtain ⟨c0_0, h⟩ := h
          refine am_Wrun 4 (ps := [0 ≤ (v3 : Int) ∧ (v3 : Int) < 60]) (pc' := 27) (lv' := [(3, .inl (v3 + 1)), (0, .inr (.inl (some 10))), (1, .inl (v1)), (2, .inl (v2))]) (st' := []) (M' := (am_up M7 11 v3 0)) rfl ⟨c0_0, trivial⟩ ?_
          refine am_W_sub [1, 2, 3, 0] rfl ?_
          exact tw_X4_choose_27 n v1 v2 (v3 + 1) (am_up M7 11 v3 0) h
        · have h := hf q
          obtain ⟨c0_0, h⟩ := h
          refine am_Wrun 5 (ps := [0 ≤ (v3 : Int) ∧ (v3 : Int) < 60]) (pc' := 27) (lv' := [(3, .inl (v3 + 1)), (0, .inr (.inl (some 10))), (1, .inl (v1)), (2, .inl (v2))]) (st' := []) (M' := (am_up M7 11 v3 1)) rfl ⟨c0_0, trivial⟩ ?_
          refine am_W_sub [1, 2, 3, 0] rfl ?_
          exact tw_X4_choose_27 n v1 v2 (v3 + 1) (am_up M7 11 v3 1) h
set_option maxRecDepth 20000 in
theorem tm_X4_choose {a0 : Int} {M : am_M} {Q : Int → am_M → Prop} (h : wp_X4_choose a0 M Q) : am_CC 4 20 [.inr (.inl (some 10)), .inl (a0)] M (am_QI Q) (fun _ _ => False) := by
  refine ⟨Nat.le_of_ble_eq_true rfl, ?_⟩
  show am_W (am_CC 3) dt_X4_choose 3 0 none (am_QI Q) (am_qx 20 (fun _ _ => False)) (0, 0, [(0, .inr (.inl (some 10))), (1, .inl (a0))], [], M)
  refine am_Wrun 1 (ps := []) (pc' := 1) (lv' := [(0, .inr (.inl (some 10))), (1, .inl (a0))]) (st' := [.inr (.inl (some 10))]) (M' := M) rfl trivial ?_
  refine am_WcallV (y := 21) (n := 1) (a := 10) (f := 4) (as := []) (st' := []) rfl rfl rfl rfl rfl rfl rfl rfl rfl rfl (Nat.zero_le _) rfl (am_CC_le (Nat.le_of_ble_eq_true rfl) (tm_X4_findNeeds h)) (fun r M1 q => ?_) (fun _ _ q => q.elim)
  obtain ⟨rfl, h⟩ := q
  refine am_Wrun 8 (ps := [0 ≤ (0 : Int) ∧ (0 : Int) < 3]) (pc' := 16) (lv' := [(2, .inl (M1 6 0)), (0, .inr (.inl (some 10))), (1, .inl (a0))]) (st' := [.inl (2), .inl (a0)]) (M' := M1) rfl ⟨⟨by decide, by decide⟩, trivial⟩ ?_
  obtain ⟨b0, ht, hf⟩ := h
  refine am_Wbr (P := [am_rg a0, am_rg 2]) (c := ¬ a0 = 2) (t := 25) (f := 19) (st' := []) rfl rfl ⟨b0, (am_rgd rfl), trivial⟩ rfl (fun q => ?_) (fun q => ?_)
  · have h := ht q
    refine am_Wrun 2 (ps := []) (pc' := 27) (lv' := [(3, .inl (0)), (2, .inl (M1 6 0)), (0, .inr (.inl (some 10))), (1, .inl (a0))]) (st' := []) (M' := M1) rfl trivial ?_
    refine am_W_sub [2, 3, 1, 0] rfl ?_
    obtain ⟨n27, h⟩ := h
    exact tw_X4_choose_27 n27 a0 (M1 6 0) 0 M1 h
  · have h := hf q
    refine am_Wrun 2 (ps := []) (pc' := 21) (lv' := [(2, .inl (M1 6 0)), (0, .inr (.inl (some 10))), (1, .inl (a0))]) (st' := [.inl (M1 6 0), .inr (.inl (some 10))]) (M' := M1) rfl trivial ?_
    refine am_WcallV (y := 25) (n := 2) (a := 10) (f := 24) (as := [.inl (M1 6 0)]) (st' := []) rfl rfl rfl rfl rfl rfl rfl rfl rfl rfl (Nat.zero_le _) rfl (am_CC_le (Nat.le_of_ble_eq_true rfl) (tm_X4_findFewest h)) (fun r M9 q => ?_) (fun _ _ q => q.elim)
    obtain ⟨x8, rfl, h⟩ := q
    refine am_Wrun 3 (ps := []) (pc' := 27) (lv' := [(3, .inl (0)), (2, .inl (M1 6 0)), (0, .inr (.inl (some 10))), (1, .inl (a0))]) (st' := []) (M' := M9) rfl trivial ?_
    refine am_W_sub [2, 3, 1, 0] rfl ?_
    obtain ⟨n27, h⟩ := h
    exact tw_X4_choose_27 n27 a0 (M1 6 0) 0 M9 h
abbrev dt_X5_ifThinned : am_D := (tk_X5_ifThinned, 5, 2, some .int, tb_hn 86)
def wp_X5_ifThinned (a0 : Int) (M : am_M) (Q : Int → am_M → Prop) (X : am_X) : Prop := wp_X5_refuseNoWay a0 M (fun M1 => wp_X4_choose a0 M1 (fun x2 M3 => Q x2 M3)) X
set_option maxRecDepth 20000 in
theorem tm_X5_ifThinned {a0 : Int} {M : am_M} {Q : Int → am_M → Prop} {X : am_X} (h : wp_X5_ifThinned a0 M Q X) : am_CC 8 86 [.inr (.inl (some 0)), .inl (a0)] M (am_QI Q) X := by
  refine ⟨Nat.le_of_ble_eq_true rfl, ?_⟩
  show am_W (am_CC 7) dt_X5_ifThinned 7 0 none (am_QI Q) (am_qx 86 X) (0, 0, [(0, .inr (.inl (some 0))), (1, .inl (a0))], [], M)
  have hX : ∀ E M, X E M → am_qx 86 X E M := fun E M q => ⟨⟨rfl, by decide⟩, q⟩
  refine am_Wrun 1 (ps := []) (pc' := 1) (lv' := [(0, .inr (.inl (some 0))), (1, .inl (a0))]) (st' := [.inl (a0)]) (M' := M) rfl trivial ?_
  refine am_WcallS (y := 18) (n := 1) (f := 4) (co := 0) (as := [.inl (a0)]) (st' := []) rfl rfl rfl rfl rfl rfl rfl rfl rfl (Nat.zero_le _) rfl (am_CC_le (Nat.le_of_ble_eq_true rfl) (tm_X5_refuseNoWay h)) (fun r M1 q => ?_) (fun E M q => hX _ _ q)
  obtain ⟨rfl, h⟩ := q
  refine am_Wrun 3 (ps := []) (pc' := 9) (lv' := [(0, .inr (.inl (some 0))), (1, .inl (a0))]) (st' := [.inl (a0), .inr (.inl (some 10))]) (M' := M1) rfl trivial ?_
  refine am_WcallV (y := 20) (n := 2) (a := 10) (f := 12) (as := [.inl (a0)]) (st' := []) rfl rfl rfl rfl rfl rfl rfl rfl rfl rfl (Nat.zero_le _) rfl (am_CC_le (Nat.le_of_ble_eq_true rfl) (tm_X4_choose h)) (fun r M3 q => ?_) (fun _ _ q => q.elim)
  obtain ⟨x2, rfl, h⟩ := q
  exact am_Wreti rfl rfl h
abbrev dt_X5_thin : am_D := (tk_X5_thin, 5, 4, some .int, tb_hn 17)
def wl_X5_thin_26 (Q : Int → am_M → Prop) (X : am_X) : Nat → Int → Int → am_M → Prop
  | 0, _, _, _ => False
  | n + 1, v2, v3, M => (am_rg v3) ∧ (am_rg (M 1 7)) ∧ ((M 1 7) ≤ v3 → Q v2 (am_up M 1 9 ((M 1 9) + 1))) ∧ (¬ (M 1 7) ≤ v3 → (0 ≤ (v3 : Int) ∧ (v3 : Int) < 60) ∧ (0 ≤ (v3 : Int) ∧ (v3 : Int) < 60) ∧ (wl_X5_thin_26 Q X n v2 (v3 + 1) (am_up M 4 v3 (M 11 v3))))
def wp_X5_thin (a0 : Int) (M : am_M) (Q : Int → am_M → Prop) (X : am_X) : Prop := wp_X5_refuseNoWay a0 M (fun M1 => wp_X0_remember M1 (fun M2 => wp_X4_choose a0 M2 (fun x3 M4 => ∃ e26, wl_X5_thin_26 Q X e26 x3 0 M4))) X
set_option maxRecDepth 20000 in
theorem tw_X5_thin_26 {Q : Int → am_M → Prop} {X : am_X} {QX : am_X} (hX : ∀ E M, X E M → QX E M) : ∀ (n : Nat) (v2 : Int) (v3 : Int) (M : am_M), wl_X5_thin_26 Q X n v2 v3 M → am_W (am_CC 7) dt_X5_thin 7 0 none (am_QI Q) QX (0, 26, [(0, .inr (.inl (some 0))), (2, .inl (v2)), (3, .inl (v3))], [], M)
  | 0, _, _, _, h => h.elim
  | n + 1, v2, v3, M, h => by
    refine am_Wrun 4 (ps := []) (pc' := 34) (lv' := [(0, .inr (.inl (some 0))), (2, .inl (v2)), (3, .inl (v3))]) (st' := [.inl (M 1 7), .inl (v3)]) (M' := M) rfl trivial ?_
    obtain ⟨b0, b1, ht, hf⟩ := h
    refine am_Wbr (P := [am_rg v3, am_rg (M 1 7)]) (c := (M 1 7) ≤ v3) (t := 61) (f := 37) (st' := []) rfl rfl ⟨b0, b1, trivial⟩ rfl (fun q => ?_) (fun q => ?_)
    · have h := ht q
      refine am_Wrun 8 (ps := []) (pc' := 75) (lv' := [(0, .inr (.inl (some 0))), (2, .inl (v2)), (3, .inl (v3))]) (st' := [.inl (v2)]) (M' := (am_up M 1 9 ((M 1 9) + 1))) rfl trivial ?_
      exact am_Wreti rfl rfl h
    · have h := hf q
      obtain ⟨c0_0, c1_0, h⟩ := h
      refine am_Wrun 12 (ps := [0 ≤ (v3 : Int) ∧ (v3 : Int) < 60, 0 ≤ (v3 : Int) ∧ (v3 : Int) < 60]) (pc' := 26) (lv' := [(3, .inl (v3 + 1)), (0, .inr (.inl (some 0))), (2, .inl (v2))]) (st' := []) (M' := (am_up M 4 v3 (M 11 v3))) rfl ⟨c0_0, c1_0, trivial⟩ ?_
      refine am_W_sub [1, 2, 0] rfl ?_
      exact tw_X5_thin_26 hX n v2 (v3 + 1) (am_up M 4 v3 (M 11 v3)) h
set_option maxRecDepth 20000 in
theorem tm_X5_thin {a0 : Int} {M : am_M} {Q : Int → am_M → Prop} {X : am_X} (h : wp_X5_thin a0 M Q X) : am_CC 8 17 [.inr (.inl (some 0)), .inl (a0)] M (am_QI Q) X := by
  refine ⟨Nat.le_of_ble_eq_true rfl, ?_⟩
  show am_W (am_CC 7) dt_X5_thin 7 0 none (am_QI Q) (am_qx 17 X) (0, 0, [(0, .inr (.inl (some 0))), (1, .inl (a0))], [], M)
  have hX : ∀ E M, X E M → am_qx 17 X E M := fun E M q => ⟨⟨rfl, by decide⟩, q⟩
  refine am_Wrun 1 (ps := []) (pc' := 1) (lv' := [(0, .inr (.inl (some 0))), (1, .inl (a0))]) (st' := [.inl (a0)]) (M' := M) rfl trivial ?_
  refine am_WcallS (y := 18) (n := 1) (f := 4) (co := 0) (as := [.inl (a0)]) (st' := []) rfl rfl rfl rfl rfl rfl rfl rfl rfl (Nat.zero_le _) rfl (am_CC_le (Nat.le_of_ble_eq_true rfl) (tm_X5_refuseNoWay h)) (fun r M1 q => ?_) (fun E M q => hX _ _ q)
  obtain ⟨rfl, h⟩ := q
  refine am_Wrun 4 (ps := []) (pc' := 12) (lv' := [(0, .inr (.inl (some 0))), (1, .inl (a0))]) (st' := [.inr (.inl (some 1)), .inr (.inl (some 14))]) (M' := M1) rfl trivial ?_
  refine am_WcallV (y := 1) (n := 2) (a := 14) (f := 15) (as := [.inr (.inl (some 1))]) (st' := []) rfl rfl rfl rfl rfl rfl rfl rfl rfl rfl (Nat.zero_le _) rfl (am_CC_le (Nat.le_of_ble_eq_true rfl) (tm_X0_remember h)) (fun r M2 q => ?_) (fun _ _ q => q.elim)
  obtain ⟨rfl, h⟩ := q
  refine am_Wrun 3 (ps := []) (pc' := 20) (lv' := [(0, .inr (.inl (some 0))), (1, .inl (a0))]) (st' := [.inl (a0), .inr (.inl (some 10))]) (M' := M2) rfl trivial ?_
  refine am_WcallV (y := 20) (n := 2) (a := 10) (f := 23) (as := [.inl (a0)]) (st' := []) rfl rfl rfl rfl rfl rfl rfl rfl rfl rfl (Nat.zero_le _) rfl (am_CC_le (Nat.le_of_ble_eq_true rfl) (tm_X4_choose h)) (fun r M4 q => ?_) (fun _ _ q => q.elim)
  obtain ⟨x3, rfl, h⟩ := q
  refine am_Wrun 3 (ps := []) (pc' := 26) (lv' := [(3, .inl (0)), (2, .inl (x3)), (0, .inr (.inl (some 0))), (1, .inl (a0))]) (st' := []) (M' := M4) rfl trivial ?_
  refine am_W_sub [2, 1, 0] rfl ?_
  obtain ⟨n26, h⟩ := h
  exact tw_X5_thin_26 hX n26 x3 0 M4 h
abbrev dt_X5_correct : am_D := (tk_X5_correct, 5, 4, some .int, tb_hn 87)
def wp_X5_correct (a0 : Int) (a1 : Int) (M : am_M) (Q : Int → am_M → Prop) (X : am_X) : Prop := wp_X5_refuseNoPoint a0 M (fun M1 => wp_X5_isValue a1 M1 (fun x2 M3 => (am_rg x2) ∧ (¬ x2 = 0 → wp_X0_remember M3 (fun M4 => (0 ≤ (a0 : Int) ∧ (a0 : Int) < 60) ∧ (0 ≤ (a0 : Int) ∧ (a0 : Int) < 60) ∧ (wp_X5_pointsChanged (am_up M4 3 a0 a1) (fun M5 => Q (M4 3 a0) M5)))) ∧ (¬ (¬ x2 = 0) → X 0 M3))) X
set_option maxRecDepth 20000 in
theorem tm_X5_correct {a0 a1 : Int} {M : am_M} {Q : Int → am_M → Prop} {X : am_X} (h : wp_X5_correct a0 a1 M Q X) : am_CC 7 87 [.inr (.inl (some 0)), .inl (a0), .inl (a1)] M (am_QI Q) X := by
  refine ⟨Nat.le_of_ble_eq_true rfl, ?_⟩
  show am_W (am_CC 6) dt_X5_correct 6 0 none (am_QI Q) (am_qx 87 X) (0, 0, [(0, .inr (.inl (some 0))), (1, .inl (a0)), (2, .inl (a1))], [], M)
  have hX : ∀ E M, X E M → am_qx 87 X E M := fun E M q => ⟨⟨rfl, by decide⟩, q⟩
  refine am_Wrun 2 (ps := []) (pc' := 2) (lv' := [(0, .inr (.inl (some 0))), (1, .inl (a0)), (2, .inl (a1))]) (st' := [.inl (a0), .inr (.inl (some 0))]) (M' := M) rfl trivial ?_
  refine am_WcallV (y := 67) (n := 2) (a := 0) (f := 5) (as := [.inl (a0)]) (st' := []) rfl rfl rfl rfl rfl rfl rfl rfl rfl rfl (Nat.zero_le _) rfl (am_CC_le (Nat.le_of_ble_eq_true rfl) (tm_X5_refuseNoPoint h)) (fun r M1 q => ?_) (fun E M q => hX _ _ q)
  obtain ⟨rfl, h⟩ := q
  refine am_Wrun 1 (ps := []) (pc' := 6) (lv' := [(0, .inr (.inl (some 0))), (1, .inl (a0)), (2, .inl (a1))]) (st' := [.inl (a1)]) (M' := M1) rfl trivial ?_
  refine am_WcallS (y := 81) (n := 1) (f := 9) (co := 0) (as := [.inl (a1)]) (st' := []) rfl rfl rfl rfl rfl rfl rfl rfl rfl (Nat.zero_le _) rfl (am_CC_le (Nat.le_of_ble_eq_true rfl) (tm_X5_isValue h)) (fun r M3 q => ?_) (fun _ _ q => q.elim)
  obtain ⟨x2, rfl, h⟩ := q
  obtain ⟨b0, ht, hf⟩ := h
  refine am_Wbr (P := [am_rg x2]) (c := ¬ x2 = 0) (t := 22) (f := 12) (st' := []) rfl rfl ⟨b0, trivial⟩ rfl (fun q => ?_) (fun q => ?_)
  · have h := ht q
    refine am_Wrun 4 (ps := []) (pc' := 30) (lv' := [(0, .inr (.inl (some 0))), (1, .inl (a0)), (2, .inl (a1))]) (st' := [.inr (.inl (some 1)), .inr (.inl (some 14))]) (M' := M3) rfl trivial ?_
    refine am_WcallV (y := 1) (n := 2) (a := 14) (f := 33) (as := [.inr (.inl (some 1))]) (st' := []) rfl rfl rfl rfl rfl rfl rfl rfl rfl rfl (Nat.zero_le _) rfl (am_CC_le (Nat.le_of_ble_eq_true rfl) (tm_X0_remember h)) (fun r M4 q => ?_) (fun _ _ q => q.elim)
    obtain ⟨rfl, h⟩ := q
    obtain ⟨c0_0, c1_0, h⟩ := h
    refine am_Wrun 13 (ps := [0 ≤ (a0 : Int) ∧ (a0 : Int) < 60, 0 ≤ (a0 : Int) ∧ (a0 : Int) < 60]) (pc' := 54) (lv' := [(3, .inl (M4 3 a0)), (0, .inr (.inl (some 0))), (1, .inl (a0)), (2, .inl (a1))]) (st' := [.inr (.inl (some 0))]) (M' := (am_up M4 3 a0 a1)) rfl ⟨c0_0, c1_0, trivial⟩ ?_
    refine am_WcallV (y := 39) (n := 1) (a := 0) (f := 57) (as := []) (st' := []) rfl rfl rfl rfl rfl rfl rfl rfl rfl rfl (Nat.zero_le _) rfl (am_CC_le (Nat.le_of_ble_eq_true rfl) (tm_X5_pointsChanged h)) (fun r M5 q => ?_) (fun _ _ q => q.elim)
    obtain ⟨rfl, h⟩ := q
    refine am_Wrun 1 (ps := []) (pc' := 58) (lv' := [(3, .inl (M4 3 a0)), (0, .inr (.inl (some 0))), (1, .inl (a0)), (2, .inl (a1))]) (st' := [.inl (M4 3 a0)]) (M' := M5) rfl trivial ?_
    exact am_Wreti rfl rfl h
  · have h := hf q
    exact am_Wthr (is := 92) (ic := 63) (E := 0) rfl (Nat.le_of_ble_eq_true rfl) rfl rfl rfl rfl (Or.inl ⟨rfl, rfl, rfl⟩) (hX _ _ h)
abbrev dt_X5_keepBroken : am_D := (tk_X5_keepBroken, 5, 3, some .int, tb_hn 6)
def wl_X5_keepBroken_45 (Q : Int → am_M → Prop) : Nat → Int → Int → am_M → Prop
  | 0, _, _, _ => False
  | n + 1, v1, v2, M => (am_rg v2) ∧ (am_rg (M 1 7)) ∧ ((M 1 7) ≤ v2 → Q v1 M) ∧ (¬ (M 1 7) ≤ v2 → (0 ≤ (v2 : Int) ∧ (v2 : Int) < 60) ∧ ((am_rg (M 68 v2)) ∧ (¬ (M 68 v2) = 1 → wl_X5_keepBroken_45 Q n v1 (v2 + 1) M) ∧ (¬ (¬ (M 68 v2) = 1) → (0 ≤ (v2 : Int) ∧ (v2 : Int) < 60) ∧ (wl_X5_keepBroken_45 Q n (v1 + 1) (v2 + 1) (am_up M 4 v2 1)))))
def wl_X5_keepBroken_2 (Q : Int → am_M → Prop) : Nat → Int → am_M → Prop
  | 0, _, _ => False
  | n + 1, v1, M => (am_rg v1) ∧ (am_rg (M 1 7)) ∧ ((M 1 7) ≤ v1 → ∃ e45, wl_X5_keepBroken_45 Q e45 0 0 M) ∧ (¬ (M 1 7) ≤ v1 → wp_X1_isBroken v1 M (fun x1 M2 => (am_rg x1) ∧ (x1 = 0 → (0 ≤ (v1 : Int) ∧ (v1 : Int) < 60) ∧ (wl_X5_keepBroken_2 Q n (v1 + 1) (am_up M2 68 v1 0))) ∧ (¬ x1 = 0 → (0 ≤ (v1 : Int) ∧ (v1 : Int) < 60) ∧ (wl_X5_keepBroken_2 Q n (v1 + 1) (am_up M2 68 v1 1)))))
def wp_X5_keepBroken (M : am_M) (Q : Int → am_M → Prop) : Prop := ∃ e2, wl_X5_keepBroken_2 Q e2 0 M
set_option maxRecDepth 20000 in
theorem tw_X5_keepBroken_45 {Q : Int → am_M → Prop} {QX : am_X} : ∀ (n : Nat) (v1 : Int) (v2 : Int) (M : am_M), wl_X5_keepBroken_45 Q n v1 v2 M → am_W (am_CC 3) dt_X5_keepBroken 3 0 none (am_QI Q) QX (0, 45, [(0, .inr (.inl (some 0))), (1, .inl (v1)), (2, .inl (v2))], [], M)
  | 0, _, _, _, h => h.elim
  | n + 1, v1, v2, M, h => by
    refine am_Wrun 4 (ps := []) (pc' := 53) (lv' := [(0, .inr (.inl (some 0))), (1, .inl (v1)), (2, .inl (v2))]) (st' := [.inl (M 1 7), .inl (v2)]) (M' := M) rfl trivial ?_
    obtain ⟨b0, b1, ht, hf⟩ := h
    refine am_Wbr (P := [am_rg v2, am_rg (M 1 7)]) (c := (M 1 7) ≤ v2) (t := 85) (f := 56) (st' := []) rfl rfl ⟨b0, b1, trivial⟩ rfl (fun q => ?_) (fun q => ?_)
    · have h := ht q
      refine am_Wrun 1 (ps := []) (pc' := 86) (lv' := [(0, .inr (.inl (some 0))), (1, .inl (v1)), (2, .inl (v2))]) (st' := [.inl (v1)]) (M' := M) rfl trivial ?_
      exact am_Wreti rfl rfl h
    · have h := hf q
      obtain ⟨c0_0, h⟩ := h
      refine am_Wrun 5 (ps := [0 ≤ (v2 : Int) ∧ (v2 : Int) < 60]) (pc' := 63) (lv' := [(0, .inr (.inl (some 0))), (1, .inl (v1)), (2, .inl (v2))]) (st' := [.inl (1), .inl (M 68 v2)]) (M' := M) rfl ⟨c0_0, trivial⟩ ?_
      obtain ⟨b0, ht, hf⟩ := h
      refine am_Wbr (P := [am_rg (M 68 v2), am_rg 1]) (c := ¬ (M 68 v2) = 1) (t := 79) (f := 66) (st' := []) rfl rfl ⟨b0, (am_rgd rfl), trivial⟩ rfl (fun q => ?_) (fun q => ?_)
      · have h := ht q
        refine am_Wrun 2 (ps := []) (pc' := 45) (lv' := [(2, .inl (v2 + 1)), (0, .inr (.inl (some 0))), (1, .inl (v1))]) (st' := []) (M' := M) rfl trivial ?_
        refine am_W_sub [1, 2, 0] rfl ?_
        exact tw_X5_keepBroken_45 n v1 (v2 + 1) M h
      · have h := hf q
        obtain ⟨c0_0, h⟩ := h
        refine am_Wrun 9 (ps := [0 ≤ (v2 : Int) ∧ (v2 : Int) < 60]) (pc' := 45) (lv' := [(2, .inl (v2 + 1)), (1, .inl (v1 + 1)), (0, .inr (.inl (some 0)))]) (st' := []) (M' := (am_up M 4 v2 1)) rfl ⟨c0_0, trivial⟩ ?_
        refine am_W_sub [2, 1, 0] rfl ?_
        exact tw_X5_keepBroken_45 n (v1 + 1) (v2 + 1) (am_up M 4 v2 1) h
set_option maxRecDepth 20000 in
theorem tw_X5_keepBroken_2 {Q : Int → am_M → Prop} {QX : am_X} : ∀ (n : Nat) (v1 : Int) (M : am_M), wl_X5_keepBroken_2 Q n v1 M → am_W (am_CC 3) dt_X5_keepBroken 3 0 none (am_QI Q) QX (0, 2, [(0, .inr (.inl (some 0))), (1, .inl (v1))], [], M)
  | 0, _, _, h => h.elim
  | n + 1, v1, M, h => by
    refine am_Wrun 4 (ps := []) (pc' := 10) (lv' := [(0, .inr (.inl (some 0))), (1, .inl (v1))]) (st' := [.inl (M 1 7), .inl (v1)]) (M' := M) rfl trivial ?_
    obtain ⟨b0, b1, ht, hf⟩ := h
    refine am_Wbr (P := [am_rg v1, am_rg (M 1 7)]) (c := (M 1 7) ≤ v1) (t := 41) (f := 13) (st' := []) rfl rfl ⟨b0, b1, trivial⟩ rfl (fun q => ?_) (fun q => ?_)
    · have h := ht q
      refine am_Wrun 4 (ps := []) (pc' := 45) (lv' := [(2, .inl (0)), (1, .inl (0)), (0, .inr (.inl (some 0)))]) (st' := []) (M' := M) rfl trivial ?_
      refine am_W_sub [2, 1, 0] rfl ?_
      obtain ⟨n45, h⟩ := h
      exact tw_X5_keepBroken_45 n45 0 0 M h
    · have h := hf q
      refine am_Wrun 6 (ps := []) (pc' := 23) (lv' := [(0, .inr (.inl (some 0))), (1, .inl (v1))]) (st' := [.inl (v1), .inr (.inl (some 9)), .inl (v1), .inr (.inl (some 68))]) (M' := M) rfl trivial ?_
      refine am_WcallV (y := 7) (n := 2) (a := 9) (f := 26) (as := [.inl (v1)]) (st' := [.inl (v1), .inr (.inl (some 68))]) rfl rfl rfl rfl rfl rfl rfl rfl rfl rfl (Nat.zero_le _) rfl (am_CC_le (Nat.le_of_ble_eq_true rfl) (tm_X1_isBroken h)) (fun r M2 q => ?_) (fun _ _ q => q.elim)
      obtain ⟨x1, rfl, h⟩ := q
      obtain ⟨b0, ht, hf⟩ := h
      refine am_Wbr (P := [am_rg x1]) (c := x1 = 0) (t := 33) (f := 29) (st' := [.inl (v1), .inr (.inl (some 68))]) rfl rfl ⟨b0, trivial⟩ rfl (fun q => ?_) (fun q => ?_)
      · have h := ht q
        obtain ⟨c0_0, h⟩ := h
        refine am_Wrun 4 (ps := [0 ≤ (v1 : Int) ∧ (v1 : Int) < 60]) (pc' := 2) (lv' := [(1, .inl (v1 + 1)), (0, .inr (.inl (some 0)))]) (st' := []) (M' := (am_up M2 68 v1 0)) rfl ⟨c0_0, trivial⟩ ?_
        refine am_W_sub [1, 0] rfl ?_
        exact tw_X5_keepBroken_2 n (v1 + 1) (am_up M2 68 v1 0) h
      · have h := hf q
        obtain ⟨c0_0, h⟩ := h
        refine am_Wrun 5 (ps := [0 ≤ (v1 : Int) ∧ (v1 : Int) < 60]) (pc' := 2) (lv' := [(1, .inl (v1 + 1)), (0, .inr (.inl (some 0)))]) (st' := []) (M' := (am_up M2 68 v1 1)) rfl ⟨c0_0, trivial⟩ ?_
        refine am_W_sub [1, 0] rfl ?_
        exact tw_X5_keepBroken_2 n (v1 + 1) (am_up M2 68 v1 1) h
set_option maxRecDepth 20000 in
theorem tm_X5_keepBroken {M : am_M} {Q : Int → am_M → Prop} (h : wp_X5_keepBroken M Q) : am_CC 4 6 [.inr (.inl (some 0))] M (am_QI Q) (fun _ _ => False) := by
  refine ⟨Nat.le_of_ble_eq_true rfl, ?_⟩
  show am_W (am_CC 3) dt_X5_keepBroken 3 0 none (am_QI Q) (am_qx 6 (fun _ _ => False)) (0, 0, [(0, .inr (.inl (some 0)))], [], M)
  refine am_Wrun 2 (ps := []) (pc' := 2) (lv' := [(1, .inl (0)), (0, .inr (.inl (some 0)))]) (st' := []) (M' := M) rfl trivial ?_
  refine am_W_sub [1, 0] rfl ?_
  obtain ⟨n2, h⟩ := h
  exact tw_X5_keepBroken_2 n2 0 M h
abbrev dt_X5_mend : am_D := (tk_X5_mend, 5, 3, some .int, tb_hn 0)
def wj_X5_mend_43 (Q : Int → am_M → Prop) (v1 : Int) (M : am_M) : Prop := wp_X2_keptPoints M (fun x4 M5 => Q (x4 - v1) M5)
def wl_X5_mend_21 (Q : Int → am_M → Prop) : Nat → Int → Int → am_M → Prop
  | 0, _, _, _ => False
  | n + 1, v1, v2, M => (am_rg v2) ∧ (60 ≤ v2 → wj_X5_mend_43 Q v1 M) ∧ (¬ 60 ≤ v2 → wp_X5_keepBroken M (fun x6 M7 => (am_rg x6) ∧ (¬ x6 = 0 → wl_X5_mend_21 Q n v1 (v2 + 1) M7) ∧ (¬ (¬ x6 = 0) → wj_X5_mend_43 Q v1 M7)))
def wp_X5_mend (M : am_M) (Q : Int → am_M → Prop) : Prop := wp_X0_remember M (fun M1 => wp_X2_keptPoints M1 (fun x2 M3 => ∃ e21, wl_X5_mend_21 Q e21 x2 0 M3))
set_option maxRecDepth 20000 in
theorem tj_X5_mend_43 {Q : Int → am_M → Prop} {QX : am_X} (v1 : Int) (M : am_M) (h : wj_X5_mend_43 Q v1 M) : am_W (am_CC 4) dt_X5_mend 4 0 none (am_QI Q) QX (0, 43, [(0, .inr (.inl (some 0))), (1, .inl (v1))], [], M) := by
  refine am_Wrun 2 (ps := []) (pc' := 47) (lv' := [(0, .inr (.inl (some 0))), (1, .inl (v1))]) (st' := [.inr (.inl (some 1))]) (M' := M) rfl trivial ?_
  refine am_WcallV (y := 5) (n := 1) (a := 1) (f := 50) (as := []) (st' := []) rfl rfl rfl rfl rfl rfl rfl rfl rfl rfl (Nat.zero_le _) rfl (am_CC_le (Nat.le_of_ble_eq_true rfl) (tm_X2_keptPoints h)) (fun r M5 q => ?_) (fun _ _ q => q.elim)
  obtain ⟨x4, rfl, h⟩ := q
  refine am_Wrun 2 (ps := []) (pc' := 52) (lv' := [(0, .inr (.inl (some 0))), (1, .inl (v1))]) (st' := [.inl (x4 - v1)]) (M' := M5) rfl trivial ?_
  exact am_Wreti rfl rfl h
set_option maxRecDepth 20000 in
theorem tw_X5_mend_21 {Q : Int → am_M → Prop} {QX : am_X} : ∀ (n : Nat) (v1 : Int) (v2 : Int) (M : am_M), wl_X5_mend_21 Q n v1 v2 M → am_W (am_CC 4) dt_X5_mend 4 0 none (am_QI Q) QX (0, 21, [(0, .inr (.inl (some 0))), (1, .inl (v1)), (2, .inl (v2))], [], M)
  | 0, _, _, _, h => h.elim
  | n + 1, v1, v2, M, h => by
    refine am_Wrun 2 (ps := [-128 ≤ (60 : Int) ∧ (60 : Int) ≤ 127]) (pc' := 24) (lv' := [(0, .inr (.inl (some 0))), (1, .inl (v1)), (2, .inl (v2))]) (st' := [.inl (60), .inl (v2)]) (M' := M) rfl ⟨⟨by decide, by decide⟩, trivial⟩ ?_
    obtain ⟨b0, ht, hf⟩ := h
    refine am_Wbr (P := [am_rg v2, am_rg 60]) (c := 60 ≤ v2) (t := 43) (f := 27) (st' := []) rfl rfl ⟨b0, (am_rgd rfl), trivial⟩ rfl (fun q => ?_) (fun q => ?_)
    · have h := ht q
      refine am_W_sub [0, 1] rfl ?_
      exact tj_X5_mend_43 v1 M h
    · have h := hf q
      refine am_Wrun 1 (ps := []) (pc' := 28) (lv' := [(0, .inr (.inl (some 0))), (1, .inl (v1)), (2, .inl (v2))]) (st' := [.inr (.inl (some 0))]) (M' := M) rfl trivial ?_
      refine am_WcallV (y := 6) (n := 1) (a := 0) (f := 31) (as := []) (st' := []) rfl rfl rfl rfl rfl rfl rfl rfl rfl rfl (Nat.zero_le _) rfl (am_CC_le (Nat.le_of_ble_eq_true rfl) (tm_X5_keepBroken h)) (fun r M7 q => ?_) (fun _ _ q => q.elim)
      obtain ⟨x6, rfl, h⟩ := q
      obtain ⟨b0, ht, hf⟩ := h
      refine am_Wbr (P := [am_rg x6]) (c := ¬ x6 = 0) (t := 37) (f := 34) (st' := []) rfl rfl ⟨b0, trivial⟩ rfl (fun q => ?_) (fun q => ?_)
      · have h := ht q
        refine am_Wrun 2 (ps := []) (pc' := 21) (lv' := [(2, .inl (v2 + 1)), (0, .inr (.inl (some 0))), (1, .inl (v1))]) (st' := []) (M' := M7) rfl trivial ?_
        refine am_W_sub [1, 2, 0] rfl ?_
        exact tw_X5_mend_21 n v1 (v2 + 1) M7 h
      · have h := hf q
        refine am_Wrun 1 (ps := []) (pc' := 43) (lv' := [(0, .inr (.inl (some 0))), (1, .inl (v1)), (2, .inl (v2))]) (st' := []) (M' := M7) rfl trivial ?_
        refine am_W_sub [0, 1] rfl ?_
        exact tj_X5_mend_43 v1 M7 h
set_option maxRecDepth 20000 in
theorem tm_X5_mend {M : am_M} {Q : Int → am_M → Prop} (h : wp_X5_mend M Q) : am_CC 5 0 [.inr (.inl (some 0))] M (am_QI Q) (fun _ _ => False) := by
  refine ⟨Nat.le_of_ble_eq_true rfl, ?_⟩
  show am_W (am_CC 4) dt_X5_mend 4 0 none (am_QI Q) (am_qx 0 (fun _ _ => False)) (0, 0, [(0, .inr (.inl (some 0)))], [], M)
  refine am_Wrun 4 (ps := []) (pc' := 8) (lv' := [(0, .inr (.inl (some 0)))]) (st' := [.inr (.inl (some 1)), .inr (.inl (some 14))]) (M' := M) rfl trivial ?_
  refine am_WcallV (y := 1) (n := 2) (a := 14) (f := 11) (as := [.inr (.inl (some 1))]) (st' := []) rfl rfl rfl rfl rfl rfl rfl rfl rfl rfl (Nat.zero_le _) rfl (am_CC_le (Nat.le_of_ble_eq_true rfl) (tm_X0_remember h)) (fun r M1 q => ?_) (fun _ _ q => q.elim)
  obtain ⟨rfl, h⟩ := q
  refine am_Wrun 2 (ps := []) (pc' := 15) (lv' := [(0, .inr (.inl (some 0)))]) (st' := [.inr (.inl (some 1))]) (M' := M1) rfl trivial ?_
  refine am_WcallV (y := 5) (n := 1) (a := 1) (f := 18) (as := []) (st' := []) rfl rfl rfl rfl rfl rfl rfl rfl rfl rfl (Nat.zero_le _) rfl (am_CC_le (Nat.le_of_ble_eq_true rfl) (tm_X2_keptPoints h)) (fun r M3 q => ?_) (fun _ _ q => q.elim)
  obtain ⟨x2, rfl, h⟩ := q
  refine am_Wrun 3 (ps := []) (pc' := 21) (lv' := [(2, .inl (0)), (1, .inl (x2)), (0, .inr (.inl (some 0)))]) (st' := []) (M' := M3) rfl trivial ?_
  refine am_W_sub [2, 1, 0] rfl ?_
  obtain ⟨n21, h⟩ := h
  exact tw_X5_mend_21 n21 x2 0 M3 h
abbrev dt_L_acts : am_D := (tk_L_acts, 9, 11, some .boolean, tb_hn 79)
def wl_L_acts_91 (Q : Int → am_M → Prop) (X : am_X) : Nat → Int → Int → Int → Int → Int → am_M → Prop
  | 0, _, _, _, _, _, _ => False
  | n + 1, v2, v3, v5, v6, v7, M => (am_rg v7) ∧ (am_rg v3) ∧ (v3 ≤ v7 → (am_rg v6) ∧ (¬ v6 = 0 → Q 1 M) ∧ (¬ (¬ v6 = 0) → (am_rg ((Int32.ofInt v2 >>> (Int32.ofInt 9 &&& 31)).toInt) ∧ am_rg 121 ∧ (0 : Int) < 121) ∧ (wp_X5_add v5 ((Int.tmod ((Int32.ofInt v2 >>> (Int32.ofInt 9 &&& 31)).toInt) 121) - 60) M (fun x9 M10 => wp_X5_point x9 0 M10 (fun x11 M12 => (am_rg x11) ∧ (am_rg v5) ∧ (¬ x11 = v5 → Q 0 M12) ∧ (¬ (¬ x11 = v5) → wp_X5_count 0 M12 (fun x13 M14 => (am_rg x13) ∧ (am_rg (v3 + 1)) ∧ (¬ x13 = (v3 + 1) → Q 0 M14) ∧ (¬ (¬ x13 = (v3 + 1)) → Q 1 M14)) X)) X) X))) ∧ (¬ v3 ≤ v7 → (am_rg v6) ∧ (¬ v6 = 0 → wl_L_acts_91 Q X n v2 v3 v5 1 (v7 + 1) M) ∧ (¬ (¬ v6 = 0) → wp_X5_point v7 0 M (fun x15 M16 => (am_rg x15) ∧ (am_rg v5) ∧ (¬ x15 = v5 → wl_L_acts_91 Q X n v2 v3 v5 0 (v7 + 1) M16) ∧ (¬ (¬ x15 = v5) → wl_L_acts_91 Q X n v2 v3 v5 1 (v7 + 1) M16)) X))
def wj_L_acts_68 (Q : Int → am_M → Prop) (X : am_X) (v2 : Int) (v3 : Int) (M : am_M) : Prop := (am_rg v2 ∧ am_rg 400 ∧ (0 : Int) < 400) ∧ ((am_rg v3) ∧ (v3 ≤ 23 → ∃ e91, wl_L_acts_91 Q X e91 v2 v3 (Int.tmod v2 400) 0 0 M) ∧ (¬ v3 ≤ 23 → ∃ e91, wl_L_acts_91 Q X e91 v2 v3 (Int.tmod v2 400) 1 0 M))
def wj_L_acts_21 (Q : Int → am_M → Prop) (X : am_X) (v1 : Int) (v2 : Int) (v3 : Int) (s0 : Int) (M : am_M) : Prop := (am_rg ((Int32.ofInt v1 &&& Int32.ofInt 7).toInt)) ∧ ((((Int32.ofInt v1 &&& Int32.ofInt 7).toInt) < 0 ∨ 6 < ((Int32.ofInt v1 &&& Int32.ofInt 7).toInt)) → (am_rg ((Int32.ofInt v2 &&& Int32.ofInt 3).toInt)) ∧ (¬ ((Int32.ofInt v2 &&& Int32.ofInt 3).toInt) = 0 → (am_rg ((Int32.ofInt v2 &&& Int32.ofInt 3).toInt)) ∧ (¬ ((Int32.ofInt v2 &&& Int32.ofInt 3).toInt) = 1 → (am_rg ((Int32.ofInt v2 >>> (Int32.ofInt 2 &&& 31)).toInt) ∧ am_rg 60 ∧ (0 : Int) < 60) ∧ (wp_X5_set 0 (Int.tmod ((Int32.ofInt v2 >>> (Int32.ofInt 2 &&& 31)).toInt) 60) M (fun x3 M4 => (am_rg x3) ∧ (x3 < 0 → Q 0 M4) ∧ (¬ x3 < 0 → Q 1 M4)) X)) ∧ (¬ (¬ ((Int32.ofInt v2 &&& Int32.ofInt 3).toInt) = 1) → wp_X5_set 2 ((Int32.ofInt ((Int32.ofInt v2 >>> (Int32.ofInt 2 &&& 31)).toInt) &&& Int32.ofInt 1).toInt) M (fun x5 M6 => (am_rg x5) ∧ (x5 < 0 → Q 0 M6) ∧ (¬ x5 < 0 → Q 1 M6)) X)) ∧ (¬ (¬ ((Int32.ofInt v2 &&& Int32.ofInt 3).toInt) = 0) → (am_rg ((Int32.ofInt v2 >>> (Int32.ofInt 2 &&& 31)).toInt) ∧ am_rg 60 ∧ (0 : Int) < 60) ∧ (wp_X5_set 1 (1 + (Int.tmod ((Int32.ofInt v2 >>> (Int32.ofInt 2 &&& 31)).toInt) 60)) M (fun x7 M8 => (am_rg x7) ∧ (x7 < 1 → Q 0 M8) ∧ (¬ x7 < 1 → Q 1 M8)) X))) ∧ (((Int32.ofInt v1 &&& Int32.ofInt 7).toInt) = 0 → wj_L_acts_68 Q X v2 v3 M) ∧ (((Int32.ofInt v1 &&& Int32.ofInt 7).toInt) = 1 → wj_L_acts_68 Q X v2 v3 M) ∧ (((Int32.ofInt v1 &&& Int32.ofInt 7).toInt) = 2 → wj_L_acts_68 Q X v2 v3 M) ∧ (((Int32.ofInt v1 &&& Int32.ofInt 7).toInt) = 3 → wp_X5_count 1 M (fun x17 M18 => (am_rg v3) ∧ (v3 = 0 → Q 1 M18) ∧ (¬ v3 = 0 → wp_X5_whyNot s0 M18 (fun x19 M20 => (am_rg x19) ∧ (¬ x19 = 0 → wp_X5_point s0 2 M20 (fun x21 M22 => (am_rg x21) ∧ (x21 = 1 → Q 1 M22) ∧ (¬ x21 = 1 → wp_X5_keep s0 M22 (fun x23 M24 => (am_rg x23) ∧ (am_rg (x17 + 1)) ∧ (¬ x23 = (x17 + 1) → Q 0 M24) ∧ (¬ (¬ x23 = (x17 + 1)) → Q 1 M24)) X)) X) ∧ (¬ (¬ x19 = 0) → wp_X5_drop s0 M20 (fun x25 M26 => (am_rg x25) ∧ (am_rg (x17 - 1)) ∧ (¬ x25 = (x17 - 1) → Q 0 M26) ∧ (¬ (¬ x25 = (x17 - 1)) → wp_X5_point s0 3 M26 (fun x27 M28 => (am_rg x27) ∧ (¬ x27 = 0 → Q 0 M28) ∧ (¬ (¬ x27 = 0) → Q 1 M28)) X)) X)) X)) X) ∧ (((Int32.ofInt v1 &&& Int32.ofInt 7).toInt) = 4 → (am_rg v2 ∧ am_rg 3 ∧ (0 : Int) < 3) ∧ (wp_X5_ifThinned (Int.tmod v2 3) M (fun x29 M30 => wp_X5_thin (Int.tmod v2 3) M30 (fun x31 M32 => (am_rg x31) ∧ (am_rg x29) ∧ (¬ x31 = x29 → Q 0 M32) ∧ (¬ (¬ x31 = x29) → wp_X5_count 1 M32 (fun x33 M34 => (am_rg x33) ∧ (am_rg x29) ∧ (¬ x33 = x29 → Q 0 M34) ∧ (¬ (¬ x33 = x29) → wp_X5_count 2 M34 (fun x35 M36 => (am_rg x35) ∧ (¬ x35 = 0 → Q 0 M36) ∧ (¬ (¬ x35 = 0) → wp_X5_ifThinned 2 M36 (fun x37 M38 => (am_rg x29) ∧ (am_rg x37) ∧ (x29 < x37 → Q 0 M38) ∧ (¬ x29 < x37 → Q 1 M38)) X)) X)) X)) X) X)) ∧ (((Int32.ofInt v1 &&& Int32.ofInt 7).toInt) = 5 → (am_rg v3) ∧ (v3 = 0 → Q 1 M) ∧ (¬ v3 = 0 → (am_rg ((Int32.ofInt v2 >>> (Int32.ofInt 6 &&& 31)).toInt) ∧ am_rg 121 ∧ (0 : Int) < 121) ∧ (wp_X5_correct s0 ((Int.tmod ((Int32.ofInt v2 >>> (Int32.ofInt 6 &&& 31)).toInt) 121) - 60) M (fun x39 M40 => (am_rg x39) ∧ (x39 < (-60) → Q 0 M40) ∧ (¬ x39 < (-60) → Q 1 M40)) X))) ∧ (((Int32.ofInt v1 &&& Int32.ofInt 7).toInt) = 6 → wp_X5_count 1 M (fun x41 M42 => wp_X5_mend M42 (fun x43 M44 => wp_X5_count 1 M44 (fun x45 M46 => (am_rg x43) ∧ (am_rg (x45 - x41)) ∧ (¬ x43 = (x45 - x41) → Q 0 M46) ∧ (¬ (¬ x43 = (x45 - x41)) → wp_X5_count 2 M46 (fun x47 M48 => (am_rg x47) ∧ (¬ x47 = 0 → Q 0 M48) ∧ (¬ (¬ x47 = 0) → Q 1 M48)) X)) X)) X)
def wp_L_acts (a1 : Int) (M : am_M) (Q : Int → am_M → Prop) (X : am_X) : Prop := wp_X5_count 0 M (fun x1 M2 => (am_rg x1) ∧ (¬ x1 = 0 → (am_rg ((Int32.ofInt a1 >>> (Int32.ofInt 3 &&& 31)).toInt) ∧ am_rg x1 ∧ (0 : Int) < x1) ∧ (wj_L_acts_21 Q X a1 ((Int32.ofInt a1 >>> (Int32.ofInt 3 &&& 31)).toInt) x1 (Int.tmod ((Int32.ofInt a1 >>> (Int32.ofInt 3 &&& 31)).toInt) x1) M2)) ∧ (¬ (¬ x1 = 0) → wj_L_acts_21 Q X a1 ((Int32.ofInt a1 >>> (Int32.ofInt 3 &&& 31)).toInt) x1 0 M2)) X
set_option maxRecDepth 20000 in
theorem tw_L_acts_91 {Q : Int → am_M → Prop} {X : am_X} {QX : am_X} (hX : ∀ E M, X E M → QX E M) : ∀ (n : Nat) (v2 : Int) (v3 : Int) (v5 : Int) (v6 : Int) (v7 : Int) (M : am_M), wl_L_acts_91 Q X n v2 v3 v5 v6 v7 M → am_W (am_CC 8) dt_L_acts 8 0 none (am_QI Q) QX (0, 91, [(0, .inr (.inl (some 0))), (2, .inl (v2)), (3, .inl (v3)), (5, .inl (v5)), (6, .inl (v6)), (7, .inl (v7))], [], M)
  | 0, _, _, _, _, _, _, h => h.elim
  | n + 1, v2, v3, v5, v6, v7, M, h => by
    refine am_Wrun 2 (ps := []) (pc' := 94) (lv' := [(0, .inr (.inl (some 0))), (2, .inl (v2)), (3, .inl (v3)), (5, .inl (v5)), (6, .inl (v6)), (7, .inl (v7))]) (st' := [.inl (v3), .inl (v7)]) (M' := M) rfl trivial ?_
    obtain ⟨b0, b1, ht, hf⟩ := h
    refine am_Wbr (P := [am_rg v7, am_rg v3]) (c := v3 ≤ v7) (t := 127) (f := 97) (st' := []) rfl rfl ⟨b0, b1, trivial⟩ rfl (fun q => ?_) (fun q => ?_)
    · have h := ht q
      refine am_Wrun 1 (ps := []) (pc' := 129) (lv' := [(0, .inr (.inl (some 0))), (2, .inl (v2)), (3, .inl (v3)), (5, .inl (v5)), (6, .inl (v6)), (7, .inl (v7))]) (st' := [.inl (v6)]) (M' := M) rfl trivial ?_
      obtain ⟨b0, ht, hf⟩ := h
      refine am_Wbr (P := [am_rg v6]) (c := ¬ v6 = 0) (t := 169) (f := 132) (st' := []) rfl rfl ⟨b0, trivial⟩ rfl (fun q => ?_) (fun q => ?_)
      · have h := ht q
        refine am_Wrun 2 (ps := []) (pc' := 174) (lv' := [(0, .inr (.inl (some 0))), (2, .inl (v2)), (3, .inl (v3)), (5, .inl (v5)), (6, .inl (v6)), (7, .inl (v7))]) (st' := [.inl (1)]) (M' := M) rfl trivial ?_
        exact am_Wretz rfl rfl (Or.inr rfl) h
      · have h := hf q
        obtain ⟨c2_0, h⟩ := h
        refine am_Wrun 10 (ps := [-128 ≤ (9 : Int) ∧ (9 : Int) ≤ 127, -128 ≤ (121 : Int) ∧ (121 : Int) ≤ 127, am_rg ((Int32.ofInt v2 >>> (Int32.ofInt 9 &&& 31)).toInt) ∧ am_rg 121 ∧ (0 : Int) < 121, -128 ≤ (60 : Int) ∧ (60 : Int) ≤ 127]) (pc' := 146) (lv' := [(0, .inr (.inl (some 0))), (2, .inl (v2)), (3, .inl (v3)), (5, .inl (v5)), (6, .inl (v6)), (7, .inl (v7))]) (st' := [.inl ((Int.tmod ((Int32.ofInt v2 >>> (Int32.ofInt 9 &&& 31)).toInt) 121) - 60), .inl (v5), .inr (.inl (some 0)), .inr (.inl (some 0))]) (M' := M) rfl ⟨⟨by decide, by decide⟩, ⟨by decide, by decide⟩, c2_0, ⟨by decide, by decide⟩, trivial⟩ ?_
        refine am_WcallV (y := 80) (n := 3) (a := 0) (f := 149) (as := [.inl (v5), .inl ((Int.tmod ((Int32.ofInt v2 >>> (Int32.ofInt 9 &&& 31)).toInt) 121) - 60)]) (st' := [.inr (.inl (some 0))]) rfl rfl rfl rfl rfl rfl rfl rfl rfl rfl (Nat.zero_le _) rfl (am_CC_le (Nat.le_of_ble_eq_true rfl) (tm_X5_add h)) (fun r M10 q => ?_) (fun E M q => hX _ _ q)
        obtain ⟨x9, rfl, h⟩ := q
        refine am_Wrun 1 (ps := []) (pc' := 150) (lv' := [(0, .inr (.inl (some 0))), (2, .inl (v2)), (3, .inl (v3)), (5, .inl (v5)), (6, .inl (v6)), (7, .inl (v7))]) (st' := [.inl (0), .inl (x9), .inr (.inl (some 0))]) (M' := M10) rfl trivial ?_
        refine am_WcallV (y := 66) (n := 3) (a := 0) (f := 153) (as := [.inl (x9), .inl (0)]) (st' := []) rfl rfl rfl rfl rfl rfl rfl rfl rfl rfl (Nat.zero_le _) rfl (am_CC_le (Nat.le_of_ble_eq_true rfl) (tm_X5_point h)) (fun r M12 q => ?_) (fun E M q => hX _ _ q)
        obtain ⟨x11, rfl, h⟩ := q
        refine am_Wrun 1 (ps := []) (pc' := 155) (lv' := [(0, .inr (.inl (some 0))), (2, .inl (v2)), (3, .inl (v3)), (5, .inl (v5)), (6, .inl (v6)), (7, .inl (v7))]) (st' := [.inl (v5), .inl (x11)]) (M' := M12) rfl trivial ?_
        obtain ⟨b0, b1, ht, hf⟩ := h
        refine am_Wbr (P := [am_rg x11, am_rg v5]) (c := ¬ x11 = v5) (t := 173) (f := 158) (st' := []) rfl rfl ⟨b0, b1, trivial⟩ rfl (fun q => ?_) (fun q => ?_)
        · have h := ht q
          refine am_Wrun 1 (ps := []) (pc' := 174) (lv' := [(0, .inr (.inl (some 0))), (2, .inl (v2)), (3, .inl (v3)), (5, .inl (v5)), (6, .inl (v6)), (7, .inl (v7))]) (st' := [.inl (0)]) (M' := M12) rfl trivial ?_
          exact am_Wretz rfl rfl (Or.inl rfl) h
        · have h := hf q
          refine am_Wrun 2 (ps := []) (pc' := 160) (lv' := [(0, .inr (.inl (some 0))), (2, .inl (v2)), (3, .inl (v3)), (5, .inl (v5)), (6, .inl (v6)), (7, .inl (v7))]) (st' := [.inl (0), .inr (.inl (some 0))]) (M' := M12) rfl trivial ?_
          refine am_WcallV (y := 51) (n := 2) (a := 0) (f := 163) (as := [.inl (0)]) (st' := []) rfl rfl rfl rfl rfl rfl rfl rfl rfl rfl (Nat.zero_le _) rfl (am_CC_le (Nat.le_of_ble_eq_true rfl) (tm_X5_count h)) (fun r M14 q => ?_) (fun E M q => hX _ _ q)
          obtain ⟨x13, rfl, h⟩ := q
          refine am_Wrun 3 (ps := []) (pc' := 166) (lv' := [(0, .inr (.inl (some 0))), (2, .inl (v2)), (3, .inl (v3)), (5, .inl (v5)), (6, .inl (v6)), (7, .inl (v7))]) (st' := [.inl (v3 + 1), .inl (x13)]) (M' := M14) rfl trivial ?_
          obtain ⟨b0, b1, ht, hf⟩ := h
          refine am_Wbr (P := [am_rg x13, am_rg (v3 + 1)]) (c := ¬ x13 = (v3 + 1)) (t := 173) (f := 169) (st' := []) rfl rfl ⟨b0, b1, trivial⟩ rfl (fun q => ?_) (fun q => ?_)
          · have h := ht q
            refine am_Wrun 1 (ps := []) (pc' := 174) (lv' := [(0, .inr (.inl (some 0))), (2, .inl (v2)), (3, .inl (v3)), (5, .inl (v5)), (6, .inl (v6)), (7, .inl (v7))]) (st' := [.inl (0)]) (M' := M14) rfl trivial ?_
            exact am_Wretz rfl rfl (Or.inl rfl) h
          · have h := hf q
            refine am_Wrun 2 (ps := []) (pc' := 174) (lv' := [(0, .inr (.inl (some 0))), (2, .inl (v2)), (3, .inl (v3)), (5, .inl (v5)), (6, .inl (v6)), (7, .inl (v7))]) (st' := [.inl (1)]) (M' := M14) rfl trivial ?_
            exact am_Wretz rfl rfl (Or.inr rfl) h
    · have h := hf q
      refine am_Wrun 1 (ps := []) (pc' := 99) (lv' := [(0, .inr (.inl (some 0))), (2, .inl (v2)), (3, .inl (v3)), (5, .inl (v5)), (6, .inl (v6)), (7, .inl (v7))]) (st' := [.inl (v6)]) (M' := M) rfl trivial ?_
      obtain ⟨b0, ht, hf⟩ := h
      refine am_Wbr (P := [am_rg v6]) (c := ¬ v6 = 0) (t := 114) (f := 102) (st' := []) rfl rfl ⟨b0, trivial⟩ rfl (fun q => ?_) (fun q => ?_)
      · have h := ht q
        refine am_Wrun 5 (ps := []) (pc' := 91) (lv' := [(7, .inl (v7 + 1)), (6, .inl (1)), (0, .inr (.inl (some 0))), (2, .inl (v2)), (3, .inl (v3)), (5, .inl (v5))]) (st' := []) (M' := M) rfl trivial ?_
        refine am_W_sub [2, 3, 4, 5, 1, 0] rfl ?_
        exact tw_L_acts_91 hX n v2 v3 v5 1 (v7 + 1) M h
      · have h := hf q
        refine am_Wrun 3 (ps := []) (pc' := 106) (lv' := [(0, .inr (.inl (some 0))), (2, .inl (v2)), (3, .inl (v3)), (5, .inl (v5)), (6, .inl (v6)), (7, .inl (v7))]) (st' := [.inl (0), .inl (v7), .inr (.inl (some 0))]) (M' := M) rfl trivial ?_
        refine am_WcallV (y := 66) (n := 3) (a := 0) (f := 109) (as := [.inl (v7), .inl (0)]) (st' := []) rfl rfl rfl rfl rfl rfl rfl rfl rfl rfl (Nat.zero_le _) rfl (am_CC_le (Nat.le_of_ble_eq_true rfl) (tm_X5_point h)) (fun r M16 q => ?_) (fun E M q => hX _ _ q)
        obtain ⟨x15, rfl, h⟩ := q
        refine am_Wrun 1 (ps := []) (pc' := 111) (lv' := [(0, .inr (.inl (some 0))), (2, .inl (v2)), (3, .inl (v3)), (5, .inl (v5)), (6, .inl (v6)), (7, .inl (v7))]) (st' := [.inl (v5), .inl (x15)]) (M' := M16) rfl trivial ?_
        obtain ⟨b0, b1, ht, hf⟩ := h
        refine am_Wbr (P := [am_rg x15, am_rg v5]) (c := ¬ x15 = v5) (t := 118) (f := 114) (st' := []) rfl rfl ⟨b0, b1, trivial⟩ rfl (fun q => ?_) (fun q => ?_)
        · have h := ht q
          refine am_Wrun 4 (ps := []) (pc' := 91) (lv' := [(7, .inl (v7 + 1)), (6, .inl (0)), (0, .inr (.inl (some 0))), (2, .inl (v2)), (3, .inl (v3)), (5, .inl (v5))]) (st' := []) (M' := M16) rfl trivial ?_
          refine am_W_sub [2, 3, 4, 5, 1, 0] rfl ?_
          exact tw_L_acts_91 hX n v2 v3 v5 0 (v7 + 1) M16 h
        · have h := hf q
          refine am_Wrun 5 (ps := []) (pc' := 91) (lv' := [(7, .inl (v7 + 1)), (6, .inl (1)), (0, .inr (.inl (some 0))), (2, .inl (v2)), (3, .inl (v3)), (5, .inl (v5))]) (st' := []) (M' := M16) rfl trivial ?_
          refine am_W_sub [2, 3, 4, 5, 1, 0] rfl ?_
          exact tw_L_acts_91 hX n v2 v3 v5 1 (v7 + 1) M16 h
set_option maxRecDepth 20000 in
theorem tj_L_acts_68 {Q : Int → am_M → Prop} {X : am_X} {QX : am_X} (hX : ∀ E M, X E M → QX E M) (v2 : Int) (v3 : Int) (M : am_M) (h : wj_L_acts_68 Q X v2 v3 M) : am_W (am_CC 8) dt_L_acts 8 0 none (am_QI Q) QX (0, 68, [(0, .inr (.inl (some 0))), (2, .inl (v2)), (3, .inl (v3))], [], M) := by
  obtain ⟨c1_0, h⟩ := h
  refine am_Wrun 6 (ps := [-32768 ≤ (400 : Int) ∧ (400 : Int) ≤ 32767, am_rg v2 ∧ am_rg 400 ∧ (0 : Int) < 400, -128 ≤ (23 : Int) ∧ (23 : Int) ≤ 127]) (pc' := 78) (lv' := [(5, .inl (Int.tmod v2 400)), (0, .inr (.inl (some 0))), (2, .inl (v2)), (3, .inl (v3))]) (st' := [.inl (23), .inl (v3)]) (M' := M) rfl ⟨⟨by decide, by decide⟩, c1_0, ⟨by decide, by decide⟩, trivial⟩ ?_
  obtain ⟨b0, ht, hf⟩ := h
  refine am_Wbr (P := [am_rg v3, am_rg 23]) (c := v3 ≤ 23) (t := 85) (f := 81) (st' := []) rfl rfl ⟨b0, (am_rgd rfl), trivial⟩ rfl (fun q => ?_) (fun q => ?_)
  · have h := ht q
    refine am_Wrun 4 (ps := []) (pc' := 91) (lv' := [(7, .inl (0)), (6, .inl (0)), (5, .inl (Int.tmod v2 400)), (0, .inr (.inl (some 0))), (2, .inl (v2)), (3, .inl (v3))]) (st' := []) (M' := M) rfl trivial ?_
    refine am_W_sub [3, 4, 5, 2, 1, 0] rfl ?_
    obtain ⟨n91, h⟩ := h
    exact tw_L_acts_91 hX n91 v2 v3 (Int.tmod v2 400) 0 0 M h
  · have h := hf q
    refine am_Wrun 5 (ps := []) (pc' := 91) (lv' := [(7, .inl (0)), (6, .inl (1)), (5, .inl (Int.tmod v2 400)), (0, .inr (.inl (some 0))), (2, .inl (v2)), (3, .inl (v3))]) (st' := []) (M' := M) rfl trivial ?_
    refine am_W_sub [3, 4, 5, 2, 1, 0] rfl ?_
    obtain ⟨n91, h⟩ := h
    exact tw_L_acts_91 hX n91 v2 v3 (Int.tmod v2 400) 1 0 M h
set_option maxRecDepth 20000 in
theorem tj_L_acts_21 {Q : Int → am_M → Prop} {X : am_X} {QX : am_X} (hX : ∀ E M, X E M → QX E M) (v1 : Int) (v2 : Int) (v3 : Int) (s0 : Int) (M : am_M) (h : wj_L_acts_21 Q X v1 v2 v3 s0 M) : am_W (am_CC 8) dt_L_acts 8 0 none (am_QI Q) QX (0, 21, [(0, .inr (.inl (some 0))), (1, .inl (v1)), (2, .inl (v2)), (3, .inl (v3))], [.inl (s0)], M) := by
  refine am_Wrun 4 (ps := [-128 ≤ (7 : Int) ∧ (7 : Int) ≤ 127]) (pc' := 27) (lv' := [(4, .inl (s0)), (0, .inr (.inl (some 0))), (1, .inl (v1)), (2, .inl (v2)), (3, .inl (v3))]) (st' := [.inl ((Int32.ofInt v1 &&& Int32.ofInt 7).toInt)]) (M' := M) rfl ⟨⟨by decide, by decide⟩, trivial⟩ ?_
  obtain ⟨c0, hd, j0, j1, j2, j3, j4, j5, j6⟩ := h
  refine am_Wsw (n := 7) (t := 376) rfl c0 rfl (by decide) (fun q => ?_) (fun j hj e2 => ?_)
  · have h := hd q
    refine am_Wrun 3 (ps := []) (pc' := 379) (lv' := [(4, .inl (s0)), (0, .inr (.inl (some 0))), (1, .inl (v1)), (2, .inl (v2)), (3, .inl (v3))]) (st' := [.inl ((Int32.ofInt v2 &&& Int32.ofInt 3).toInt)]) (M' := M) rfl trivial ?_
    obtain ⟨b0, ht, hf⟩ := h
    refine am_Wbr (P := [am_rg ((Int32.ofInt v2 &&& Int32.ofInt 3).toInt)]) (c := ¬ ((Int32.ofInt v2 &&& Int32.ofInt 3).toInt) = 0) (t := 407) (f := 382) (st' := []) rfl rfl ⟨b0, trivial⟩ rfl (fun q => ?_) (fun q => ?_)
    · have h := ht q
      refine am_Wrun 4 (ps := []) (pc' := 411) (lv' := [(4, .inl (s0)), (0, .inr (.inl (some 0))), (1, .inl (v1)), (2, .inl (v2)), (3, .inl (v3))]) (st' := [.inl (1), .inl ((Int32.ofInt v2 &&& Int32.ofInt 3).toInt)]) (M' := M) rfl trivial ?_
      obtain ⟨b0, ht, hf⟩ := h
      refine am_Wbr (P := [am_rg ((Int32.ofInt v2 &&& Int32.ofInt 3).toInt), am_rg 1]) (c := ¬ ((Int32.ofInt v2 &&& Int32.ofInt 3).toInt) = 1) (t := 435) (f := 414) (st' := []) rfl rfl ⟨b0, (am_rgd rfl), trivial⟩ rfl (fun q => ?_) (fun q => ?_)
      · have h := ht q
        obtain ⟨c1_0, h⟩ := h
        refine am_Wrun 7 (ps := [-128 ≤ (60 : Int) ∧ (60 : Int) ≤ 127, am_rg ((Int32.ofInt v2 >>> (Int32.ofInt 2 &&& 31)).toInt) ∧ am_rg 60 ∧ (0 : Int) < 60]) (pc' := 443) (lv' := [(4, .inl (s0)), (0, .inr (.inl (some 0))), (1, .inl (v1)), (2, .inl (v2)), (3, .inl (v3))]) (st' := [.inl (Int.tmod ((Int32.ofInt v2 >>> (Int32.ofInt 2 &&& 31)).toInt) 60), .inl (0), .inr (.inl (some 0))]) (M' := M) rfl ⟨⟨by decide, by decide⟩, c1_0, trivial⟩ ?_
        refine am_WcallV (y := 42) (n := 3) (a := 0) (f := 446) (as := [.inl (0), .inl (Int.tmod ((Int32.ofInt v2 >>> (Int32.ofInt 2 &&& 31)).toInt) 60)]) (st' := []) rfl rfl rfl rfl rfl rfl rfl rfl rfl rfl (Nat.zero_le _) rfl (am_CC_le (Nat.le_of_ble_eq_true rfl) (tm_X5_set h)) (fun r M4 q => ?_) (fun E M q => hX _ _ q)
        obtain ⟨x3, rfl, h⟩ := q
        obtain ⟨b0, ht, hf⟩ := h
        refine am_Wbr (P := [am_rg x3]) (c := x3 < 0) (t := 453) (f := 449) (st' := []) rfl rfl ⟨b0, trivial⟩ rfl (fun q => ?_) (fun q => ?_)
        · have h := ht q
          refine am_Wrun 1 (ps := []) (pc' := 454) (lv' := [(4, .inl (s0)), (0, .inr (.inl (some 0))), (1, .inl (v1)), (2, .inl (v2)), (3, .inl (v3))]) (st' := [.inl (0)]) (M' := M4) rfl trivial ?_
          exact am_Wretz rfl rfl (Or.inl rfl) h
        · have h := hf q
          refine am_Wrun 2 (ps := []) (pc' := 454) (lv' := [(4, .inl (s0)), (0, .inr (.inl (some 0))), (1, .inl (v1)), (2, .inl (v2)), (3, .inl (v3))]) (st' := [.inl (1)]) (M' := M4) rfl trivial ?_
          exact am_Wretz rfl rfl (Or.inr rfl) h
      · have h := hf q
        refine am_Wrun 7 (ps := []) (pc' := 421) (lv' := [(4, .inl (s0)), (0, .inr (.inl (some 0))), (1, .inl (v1)), (2, .inl (v2)), (3, .inl (v3))]) (st' := [.inl ((Int32.ofInt ((Int32.ofInt v2 >>> (Int32.ofInt 2 &&& 31)).toInt) &&& Int32.ofInt 1).toInt), .inl (2), .inr (.inl (some 0))]) (M' := M) rfl trivial ?_
        refine am_WcallV (y := 42) (n := 3) (a := 0) (f := 424) (as := [.inl (2), .inl ((Int32.ofInt ((Int32.ofInt v2 >>> (Int32.ofInt 2 &&& 31)).toInt) &&& Int32.ofInt 1).toInt)]) (st' := []) rfl rfl rfl rfl rfl rfl rfl rfl rfl rfl (Nat.zero_le _) rfl (am_CC_le (Nat.le_of_ble_eq_true rfl) (tm_X5_set h)) (fun r M6 q => ?_) (fun E M q => hX _ _ q)
        obtain ⟨x5, rfl, h⟩ := q
        obtain ⟨b0, ht, hf⟩ := h
        refine am_Wbr (P := [am_rg x5]) (c := x5 < 0) (t := 431) (f := 427) (st' := []) rfl rfl ⟨b0, trivial⟩ rfl (fun q => ?_) (fun q => ?_)
        · have h := ht q
          refine am_Wrun 2 (ps := []) (pc' := 454) (lv' := [(4, .inl (s0)), (0, .inr (.inl (some 0))), (1, .inl (v1)), (2, .inl (v2)), (3, .inl (v3))]) (st' := [.inl (0)]) (M' := M6) rfl trivial ?_
          exact am_Wretz rfl rfl (Or.inl rfl) h
        · have h := hf q
          refine am_Wrun 2 (ps := []) (pc' := 454) (lv' := [(4, .inl (s0)), (0, .inr (.inl (some 0))), (1, .inl (v1)), (2, .inl (v2)), (3, .inl (v3))]) (st' := [.inl (1)]) (M' := M6) rfl trivial ?_
          exact am_Wretz rfl rfl (Or.inr rfl) h
    · have h := hf q
      obtain ⟨c1_0, h⟩ := h
      refine am_Wrun 9 (ps := [-128 ≤ (60 : Int) ∧ (60 : Int) ≤ 127, am_rg ((Int32.ofInt v2 >>> (Int32.ofInt 2 &&& 31)).toInt) ∧ am_rg 60 ∧ (0 : Int) < 60]) (pc' := 392) (lv' := [(4, .inl (s0)), (0, .inr (.inl (some 0))), (1, .inl (v1)), (2, .inl (v2)), (3, .inl (v3))]) (st' := [.inl (1 + (Int.tmod ((Int32.ofInt v2 >>> (Int32.ofInt 2 &&& 31)).toInt) 60)), .inl (1), .inr (.inl (some 0))]) (M' := M) rfl ⟨⟨by decide, by decide⟩, c1_0, trivial⟩ ?_
      refine am_WcallV (y := 42) (n := 3) (a := 0) (f := 395) (as := [.inl (1), .inl (1 + (Int.tmod ((Int32.ofInt v2 >>> (Int32.ofInt 2 &&& 31)).toInt) 60))]) (st' := []) rfl rfl rfl rfl rfl rfl rfl rfl rfl rfl (Nat.zero_le _) rfl (am_CC_le (Nat.le_of_ble_eq_true rfl) (tm_X5_set h)) (fun r M8 q => ?_) (fun E M q => hX _ _ q)
      obtain ⟨x7, rfl, h⟩ := q
      refine am_Wrun 1 (ps := []) (pc' := 396) (lv' := [(4, .inl (s0)), (0, .inr (.inl (some 0))), (1, .inl (v1)), (2, .inl (v2)), (3, .inl (v3))]) (st' := [.inl (1), .inl (x7)]) (M' := M8) rfl trivial ?_
      obtain ⟨b0, ht, hf⟩ := h
      refine am_Wbr (P := [am_rg x7, am_rg 1]) (c := x7 < 1) (t := 403) (f := 399) (st' := []) rfl rfl ⟨b0, (am_rgd rfl), trivial⟩ rfl (fun q => ?_) (fun q => ?_)
      · have h := ht q
        refine am_Wrun 2 (ps := []) (pc' := 454) (lv' := [(4, .inl (s0)), (0, .inr (.inl (some 0))), (1, .inl (v1)), (2, .inl (v2)), (3, .inl (v3))]) (st' := [.inl (0)]) (M' := M8) rfl trivial ?_
        exact am_Wretz rfl rfl (Or.inl rfl) h
      · have h := hf q
        refine am_Wrun 2 (ps := []) (pc' := 454) (lv' := [(4, .inl (s0)), (0, .inr (.inl (some 0))), (1, .inl (v1)), (2, .inl (v2)), (3, .inl (v3))]) (st' := [.inl (1)]) (M' := M8) rfl trivial ?_
        exact am_Wretz rfl rfl (Or.inr rfl) h
  · match j, hj, e2 with
    | 0, _, e2 =>
      have h := j0 e2
      refine ⟨_, 68, rfl, rfl, ?_⟩
      refine am_W_sub [1, 3, 4] rfl ?_
      exact tj_L_acts_68 hX v2 v3 M h
    | 1, _, e2 =>
      have h := j1 e2
      refine ⟨_, 68, rfl, rfl, ?_⟩
      refine am_W_sub [1, 3, 4] rfl ?_
      exact tj_L_acts_68 hX v2 v3 M h
    | 2, _, e2 =>
      have h := j2 e2
      refine ⟨_, 68, rfl, rfl, ?_⟩
      refine am_W_sub [1, 3, 4] rfl ?_
      exact tj_L_acts_68 hX v2 v3 M h
    | 3, _, e2 =>
      have h := j3 e2
      refine ⟨_, 175, rfl, rfl, ?_⟩
      refine am_Wrun 2 (ps := []) (pc' := 177) (lv' := [(4, .inl (s0)), (0, .inr (.inl (some 0))), (1, .inl (v1)), (2, .inl (v2)), (3, .inl (v3))]) (st' := [.inl (1), .inr (.inl (some 0))]) (M' := M) rfl trivial ?_
      refine am_WcallV (y := 51) (n := 2) (a := 0) (f := 180) (as := [.inl (1)]) (st' := []) rfl rfl rfl rfl rfl rfl rfl rfl rfl rfl (Nat.zero_le _) rfl (am_CC_le (Nat.le_of_ble_eq_true rfl) (tm_X5_count h)) (fun r M18 q => ?_) (fun E M q => hX _ _ q)
      obtain ⟨x17, rfl, h⟩ := q
      refine am_Wrun 2 (ps := []) (pc' := 183) (lv' := [(7, .inl (x17)), (4, .inl (s0)), (0, .inr (.inl (some 0))), (1, .inl (v1)), (2, .inl (v2)), (3, .inl (v3))]) (st' := [.inl (v3)]) (M' := M18) rfl trivial ?_
      obtain ⟨b0, ht, hf⟩ := h
      refine am_Wbr (P := [am_rg v3]) (c := v3 = 0) (t := 245) (f := 186) (st' := []) rfl rfl ⟨b0, trivial⟩ rfl (fun q => ?_) (fun q => ?_)
      · have h := ht q
        refine am_Wrun 2 (ps := []) (pc' := 250) (lv' := [(7, .inl (x17)), (4, .inl (s0)), (0, .inr (.inl (some 0))), (1, .inl (v1)), (2, .inl (v2)), (3, .inl (v3))]) (st' := [.inl (1)]) (M' := M18) rfl trivial ?_
        exact am_Wretz rfl rfl (Or.inr rfl) h
      · have h := hf q
        refine am_Wrun 2 (ps := []) (pc' := 189) (lv' := [(7, .inl (x17)), (4, .inl (s0)), (0, .inr (.inl (some 0))), (1, .inl (v1)), (2, .inl (v2)), (3, .inl (v3))]) (st' := [.inl (s0), .inr (.inl (some 0))]) (M' := M18) rfl trivial ?_
        refine am_WcallV (y := 78) (n := 2) (a := 0) (f := 192) (as := [.inl (s0)]) (st' := []) rfl rfl rfl rfl rfl rfl rfl rfl rfl rfl (Nat.zero_le _) rfl (am_CC_le (Nat.le_of_ble_eq_true rfl) (tm_X5_whyNot h)) (fun r M20 q => ?_) (fun E M q => hX _ _ q)
        obtain ⟨x19, rfl, h⟩ := q
        obtain ⟨b0, ht, hf⟩ := h
        refine am_Wbr (P := [am_rg x19]) (c := ¬ x19 = 0) (t := 221) (f := 195) (st' := []) rfl rfl ⟨b0, trivial⟩ rfl (fun q => ?_) (fun q => ?_)
        · have h := ht q
          refine am_Wrun 3 (ps := []) (pc' := 225) (lv' := [(7, .inl (x17)), (4, .inl (s0)), (0, .inr (.inl (some 0))), (1, .inl (v1)), (2, .inl (v2)), (3, .inl (v3))]) (st' := [.inl (2), .inl (s0), .inr (.inl (some 0))]) (M' := M20) rfl trivial ?_
          refine am_WcallV (y := 66) (n := 3) (a := 0) (f := 228) (as := [.inl (s0), .inl (2)]) (st' := []) rfl rfl rfl rfl rfl rfl rfl rfl rfl rfl (Nat.zero_le _) rfl (am_CC_le (Nat.le_of_ble_eq_true rfl) (tm_X5_point h)) (fun r M22 q => ?_) (fun E M q => hX _ _ q)
          obtain ⟨x21, rfl, h⟩ := q
          refine am_Wrun 1 (ps := []) (pc' := 229) (lv' := [(7, .inl (x17)), (4, .inl (s0)), (0, .inr (.inl (some 0))), (1, .inl (v1)), (2, .inl (v2)), (3, .inl (v3))]) (st' := [.inl (1), .inl (x21)]) (M' := M22) rfl trivial ?_
          obtain ⟨b0, ht, hf⟩ := h
          refine am_Wbr (P := [am_rg x21, am_rg 1]) (c := x21 = 1) (t := 245) (f := 232) (st' := []) rfl rfl ⟨b0, (am_rgd rfl), trivial⟩ rfl (fun q => ?_) (fun q => ?_)
          · have h := ht q
            refine am_Wrun 2 (ps := []) (pc' := 250) (lv' := [(7, .inl (x17)), (4, .inl (s0)), (0, .inr (.inl (some 0))), (1, .inl (v1)), (2, .inl (v2)), (3, .inl (v3))]) (st' := [.inl (1)]) (M' := M22) rfl trivial ?_
            exact am_Wretz rfl rfl (Or.inr rfl) h
          · have h := hf q
            refine am_Wrun 2 (ps := []) (pc' := 235) (lv' := [(7, .inl (x17)), (4, .inl (s0)), (0, .inr (.inl (some 0))), (1, .inl (v1)), (2, .inl (v2)), (3, .inl (v3))]) (st' := [.inl (s0), .inr (.inl (some 0))]) (M' := M22) rfl trivial ?_
            refine am_WcallV (y := 85) (n := 2) (a := 0) (f := 238) (as := [.inl (s0)]) (st' := []) rfl rfl rfl rfl rfl rfl rfl rfl rfl rfl (Nat.zero_le _) rfl (am_CC_le (Nat.le_of_ble_eq_true rfl) (tm_X5_keep h)) (fun r M24 q => ?_) (fun E M q => hX _ _ q)
            obtain ⟨x23, rfl, h⟩ := q
            refine am_Wrun 3 (ps := []) (pc' := 242) (lv' := [(7, .inl (x17)), (4, .inl (s0)), (0, .inr (.inl (some 0))), (1, .inl (v1)), (2, .inl (v2)), (3, .inl (v3))]) (st' := [.inl (x17 + 1), .inl (x23)]) (M' := M24) rfl trivial ?_
            obtain ⟨b0, b1, ht, hf⟩ := h
            refine am_Wbr (P := [am_rg x23, am_rg (x17 + 1)]) (c := ¬ x23 = (x17 + 1)) (t := 249) (f := 245) (st' := []) rfl rfl ⟨b0, b1, trivial⟩ rfl (fun q => ?_) (fun q => ?_)
            · have h := ht q
              refine am_Wrun 1 (ps := []) (pc' := 250) (lv' := [(7, .inl (x17)), (4, .inl (s0)), (0, .inr (.inl (some 0))), (1, .inl (v1)), (2, .inl (v2)), (3, .inl (v3))]) (st' := [.inl (0)]) (M' := M24) rfl trivial ?_
              exact am_Wretz rfl rfl (Or.inl rfl) h
            · have h := hf q
              refine am_Wrun 2 (ps := []) (pc' := 250) (lv' := [(7, .inl (x17)), (4, .inl (s0)), (0, .inr (.inl (some 0))), (1, .inl (v1)), (2, .inl (v2)), (3, .inl (v3))]) (st' := [.inl (1)]) (M' := M24) rfl trivial ?_
              exact am_Wretz rfl rfl (Or.inr rfl) h
        · have h := hf q
          refine am_Wrun 2 (ps := []) (pc' := 198) (lv' := [(7, .inl (x17)), (4, .inl (s0)), (0, .inr (.inl (some 0))), (1, .inl (v1)), (2, .inl (v2)), (3, .inl (v3))]) (st' := [.inl (s0), .inr (.inl (some 0))]) (M' := M20) rfl trivial ?_
          refine am_WcallV (y := 84) (n := 2) (a := 0) (f := 201) (as := [.inl (s0)]) (st' := []) rfl rfl rfl rfl rfl rfl rfl rfl rfl rfl (Nat.zero_le _) rfl (am_CC_le (Nat.le_of_ble_eq_true rfl) (tm_X5_drop h)) (fun r M26 q => ?_) (fun E M q => hX _ _ q)
          obtain ⟨x25, rfl, h⟩ := q
          refine am_Wrun 3 (ps := []) (pc' := 205) (lv' := [(7, .inl (x17)), (4, .inl (s0)), (0, .inr (.inl (some 0))), (1, .inl (v1)), (2, .inl (v2)), (3, .inl (v3))]) (st' := [.inl (x17 - 1), .inl (x25)]) (M' := M26) rfl trivial ?_
          obtain ⟨b0, b1, ht, hf⟩ := h
          refine am_Wbr (P := [am_rg x25, am_rg (x17 - 1)]) (c := ¬ x25 = (x17 - 1)) (t := 249) (f := 208) (st' := []) rfl rfl ⟨b0, b1, trivial⟩ rfl (fun q => ?_) (fun q => ?_)
          · have h := ht q
            refine am_Wrun 1 (ps := []) (pc' := 250) (lv' := [(7, .inl (x17)), (4, .inl (s0)), (0, .inr (.inl (some 0))), (1, .inl (v1)), (2, .inl (v2)), (3, .inl (v3))]) (st' := [.inl (0)]) (M' := M26) rfl trivial ?_
            exact am_Wretz rfl rfl (Or.inl rfl) h
          · have h := hf q
            refine am_Wrun 3 (ps := []) (pc' := 212) (lv' := [(7, .inl (x17)), (4, .inl (s0)), (0, .inr (.inl (some 0))), (1, .inl (v1)), (2, .inl (v2)), (3, .inl (v3))]) (st' := [.inl (3), .inl (s0), .inr (.inl (some 0))]) (M' := M26) rfl trivial ?_
            refine am_WcallV (y := 66) (n := 3) (a := 0) (f := 215) (as := [.inl (s0), .inl (3)]) (st' := []) rfl rfl rfl rfl rfl rfl rfl rfl rfl rfl (Nat.zero_le _) rfl (am_CC_le (Nat.le_of_ble_eq_true rfl) (tm_X5_point h)) (fun r M28 q => ?_) (fun E M q => hX _ _ q)
            obtain ⟨x27, rfl, h⟩ := q
            obtain ⟨b0, ht, hf⟩ := h
            refine am_Wbr (P := [am_rg x27]) (c := ¬ x27 = 0) (t := 249) (f := 218) (st' := []) rfl rfl ⟨b0, trivial⟩ rfl (fun q => ?_) (fun q => ?_)
            · have h := ht q
              refine am_Wrun 1 (ps := []) (pc' := 250) (lv' := [(7, .inl (x17)), (4, .inl (s0)), (0, .inr (.inl (some 0))), (1, .inl (v1)), (2, .inl (v2)), (3, .inl (v3))]) (st' := [.inl (0)]) (M' := M28) rfl trivial ?_
              exact am_Wretz rfl rfl (Or.inl rfl) h
            · have h := hf q
              refine am_Wrun 3 (ps := []) (pc' := 250) (lv' := [(7, .inl (x17)), (4, .inl (s0)), (0, .inr (.inl (some 0))), (1, .inl (v1)), (2, .inl (v2)), (3, .inl (v3))]) (st' := [.inl (1)]) (M' := M28) rfl trivial ?_
              exact am_Wretz rfl rfl (Or.inr rfl) h
    | 4, _, e2 =>
      have h := j4 e2
      refine ⟨_, 251, rfl, rfl, ?_⟩
      obtain ⟨c0_0, h⟩ := h
      refine am_Wrun 6 (ps := [am_rg v2 ∧ am_rg 3 ∧ (0 : Int) < 3]) (pc' := 259) (lv' := [(8, .inl (Int.tmod v2 3)), (4, .inl (s0)), (0, .inr (.inl (some 0))), (1, .inl (v1)), (2, .inl (v2)), (3, .inl (v3))]) (st' := [.inl (Int.tmod v2 3), .inr (.inl (some 0))]) (M' := M) rfl ⟨c0_0, trivial⟩ ?_
      refine am_WcallV (y := 86) (n := 2) (a := 0) (f := 262) (as := [.inl (Int.tmod v2 3)]) (st' := []) rfl rfl rfl rfl rfl rfl rfl rfl rfl rfl (Nat.zero_le _) rfl (am_CC_le (Nat.le_of_ble_eq_true rfl) (tm_X5_ifThinned h)) (fun r M30 q => ?_) (fun E M q => hX _ _ q)
      obtain ⟨x29, rfl, h⟩ := q
      refine am_Wrun 3 (ps := []) (pc' := 267) (lv' := [(9, .inl (x29)), (8, .inl (Int.tmod v2 3)), (4, .inl (s0)), (0, .inr (.inl (some 0))), (1, .inl (v1)), (2, .inl (v2)), (3, .inl (v3))]) (st' := [.inl (Int.tmod v2 3), .inr (.inl (some 0))]) (M' := M30) rfl trivial ?_
      refine am_WcallV (y := 17) (n := 2) (a := 0) (f := 270) (as := [.inl (Int.tmod v2 3)]) (st' := []) rfl rfl rfl rfl rfl rfl rfl rfl rfl rfl (Nat.zero_le _) rfl (am_CC_le (Nat.le_of_ble_eq_true rfl) (tm_X5_thin h)) (fun r M32 q => ?_) (fun E M q => hX _ _ q)
      obtain ⟨x31, rfl, h⟩ := q
      refine am_Wrun 1 (ps := []) (pc' := 272) (lv' := [(9, .inl (x29)), (8, .inl (Int.tmod v2 3)), (4, .inl (s0)), (0, .inr (.inl (some 0))), (1, .inl (v1)), (2, .inl (v2)), (3, .inl (v3))]) (st' := [.inl (x29), .inl (x31)]) (M' := M32) rfl trivial ?_
      obtain ⟨b0, b1, ht, hf⟩ := h
      refine am_Wbr (P := [am_rg x31, am_rg x29]) (c := ¬ x31 = x29) (t := 307) (f := 275) (st' := []) rfl rfl ⟨b0, b1, trivial⟩ rfl (fun q => ?_) (fun q => ?_)
      · have h := ht q
        refine am_Wrun 1 (ps := []) (pc' := 308) (lv' := [(9, .inl (x29)), (8, .inl (Int.tmod v2 3)), (4, .inl (s0)), (0, .inr (.inl (some 0))), (1, .inl (v1)), (2, .inl (v2)), (3, .inl (v3))]) (st' := [.inl (0)]) (M' := M32) rfl trivial ?_
        exact am_Wretz rfl rfl (Or.inl rfl) h
      · have h := hf q
        refine am_Wrun 2 (ps := []) (pc' := 277) (lv' := [(9, .inl (x29)), (8, .inl (Int.tmod v2 3)), (4, .inl (s0)), (0, .inr (.inl (some 0))), (1, .inl (v1)), (2, .inl (v2)), (3, .inl (v3))]) (st' := [.inl (1), .inr (.inl (some 0))]) (M' := M32) rfl trivial ?_
        refine am_WcallV (y := 51) (n := 2) (a := 0) (f := 280) (as := [.inl (1)]) (st' := []) rfl rfl rfl rfl rfl rfl rfl rfl rfl rfl (Nat.zero_le _) rfl (am_CC_le (Nat.le_of_ble_eq_true rfl) (tm_X5_count h)) (fun r M34 q => ?_) (fun E M q => hX _ _ q)
        obtain ⟨x33, rfl, h⟩ := q
        refine am_Wrun 1 (ps := []) (pc' := 282) (lv' := [(9, .inl (x29)), (8, .inl (Int.tmod v2 3)), (4, .inl (s0)), (0, .inr (.inl (some 0))), (1, .inl (v1)), (2, .inl (v2)), (3, .inl (v3))]) (st' := [.inl (x29), .inl (x33)]) (M' := M34) rfl trivial ?_
        obtain ⟨b0, b1, ht, hf⟩ := h
        refine am_Wbr (P := [am_rg x33, am_rg x29]) (c := ¬ x33 = x29) (t := 307) (f := 285) (st' := []) rfl rfl ⟨b0, b1, trivial⟩ rfl (fun q => ?_) (fun q => ?_)
        · have h := ht q
          refine am_Wrun 1 (ps := []) (pc' := 308) (lv' := [(9, .inl (x29)), (8, .inl (Int.tmod v2 3)), (4, .inl (s0)), (0, .inr (.inl (some 0))), (1, .inl (v1)), (2, .inl (v2)), (3, .inl (v3))]) (st' := [.inl (0)]) (M' := M34) rfl trivial ?_
          exact am_Wretz rfl rfl (Or.inl rfl) h
        · have h := hf q
          refine am_Wrun 2 (ps := []) (pc' := 287) (lv' := [(9, .inl (x29)), (8, .inl (Int.tmod v2 3)), (4, .inl (s0)), (0, .inr (.inl (some 0))), (1, .inl (v1)), (2, .inl (v2)), (3, .inl (v3))]) (st' := [.inl (2), .inr (.inl (some 0))]) (M' := M34) rfl trivial ?_
          refine am_WcallV (y := 51) (n := 2) (a := 0) (f := 290) (as := [.inl (2)]) (st' := []) rfl rfl rfl rfl rfl rfl rfl rfl rfl rfl (Nat.zero_le _) rfl (am_CC_le (Nat.le_of_ble_eq_true rfl) (tm_X5_count h)) (fun r M36 q => ?_) (fun E M q => hX _ _ q)
          obtain ⟨x35, rfl, h⟩ := q
          obtain ⟨b0, ht, hf⟩ := h
          refine am_Wbr (P := [am_rg x35]) (c := ¬ x35 = 0) (t := 307) (f := 293) (st' := []) rfl rfl ⟨b0, trivial⟩ rfl (fun q => ?_) (fun q => ?_)
          · have h := ht q
            refine am_Wrun 1 (ps := []) (pc' := 308) (lv' := [(9, .inl (x29)), (8, .inl (Int.tmod v2 3)), (4, .inl (s0)), (0, .inr (.inl (some 0))), (1, .inl (v1)), (2, .inl (v2)), (3, .inl (v3))]) (st' := [.inl (0)]) (M' := M36) rfl trivial ?_
            exact am_Wretz rfl rfl (Or.inl rfl) h
          · have h := hf q
            refine am_Wrun 3 (ps := []) (pc' := 297) (lv' := [(9, .inl (x29)), (8, .inl (Int.tmod v2 3)), (4, .inl (s0)), (0, .inr (.inl (some 0))), (1, .inl (v1)), (2, .inl (v2)), (3, .inl (v3))]) (st' := [.inl (2), .inr (.inl (some 0)), .inl (x29)]) (M' := M36) rfl trivial ?_
            refine am_WcallV (y := 86) (n := 2) (a := 0) (f := 300) (as := [.inl (2)]) (st' := [.inl (x29)]) rfl rfl rfl rfl rfl rfl rfl rfl rfl rfl (Nat.zero_le _) rfl (am_CC_le (Nat.le_of_ble_eq_true rfl) (tm_X5_ifThinned h)) (fun r M38 q => ?_) (fun E M q => hX _ _ q)
            obtain ⟨x37, rfl, h⟩ := q
            obtain ⟨b0, b1, ht, hf⟩ := h
            refine am_Wbr (P := [am_rg x29, am_rg x37]) (c := x29 < x37) (t := 307) (f := 303) (st' := []) rfl rfl ⟨b0, b1, trivial⟩ rfl (fun q => ?_) (fun q => ?_)
            · have h := ht q
              refine am_Wrun 1 (ps := []) (pc' := 308) (lv' := [(9, .inl (x29)), (8, .inl (Int.tmod v2 3)), (4, .inl (s0)), (0, .inr (.inl (some 0))), (1, .inl (v1)), (2, .inl (v2)), (3, .inl (v3))]) (st' := [.inl (0)]) (M' := M38) rfl trivial ?_
              exact am_Wretz rfl rfl (Or.inl rfl) h
            · have h := hf q
              refine am_Wrun 2 (ps := []) (pc' := 308) (lv' := [(9, .inl (x29)), (8, .inl (Int.tmod v2 3)), (4, .inl (s0)), (0, .inr (.inl (some 0))), (1, .inl (v1)), (2, .inl (v2)), (3, .inl (v3))]) (st' := [.inl (1)]) (M' := M38) rfl trivial ?_
              exact am_Wretz rfl rfl (Or.inr rfl) h
    | 5, _, e2 =>
      have h := j5 e2
      refine ⟨_, 309, rfl, rfl, ?_⟩
      refine am_Wrun 1 (ps := []) (pc' := 310) (lv' := [(4, .inl (s0)), (0, .inr (.inl (some 0))), (1, .inl (v1)), (2, .inl (v2)), (3, .inl (v3))]) (st' := [.inl (v3)]) (M' := M) rfl trivial ?_
      obtain ⟨b0, ht, hf⟩ := h
      refine am_Wbr (P := [am_rg v3]) (c := v3 = 0) (t := 334) (f := 313) (st' := []) rfl rfl ⟨b0, trivial⟩ rfl (fun q => ?_) (fun q => ?_)
      · have h := ht q
        refine am_Wrun 2 (ps := []) (pc' := 339) (lv' := [(4, .inl (s0)), (0, .inr (.inl (some 0))), (1, .inl (v1)), (2, .inl (v2)), (3, .inl (v3))]) (st' := [.inl (1)]) (M' := M) rfl trivial ?_
        exact am_Wretz rfl rfl (Or.inr rfl) h
      · have h := hf q
        obtain ⟨c2_0, h⟩ := h
        refine am_Wrun 9 (ps := [-128 ≤ (6 : Int) ∧ (6 : Int) ≤ 127, -128 ≤ (121 : Int) ∧ (121 : Int) ≤ 127, am_rg ((Int32.ofInt v2 >>> (Int32.ofInt 6 &&& 31)).toInt) ∧ am_rg 121 ∧ (0 : Int) < 121, -128 ≤ (60 : Int) ∧ (60 : Int) ≤ 127]) (pc' := 326) (lv' := [(4, .inl (s0)), (0, .inr (.inl (some 0))), (1, .inl (v1)), (2, .inl (v2)), (3, .inl (v3))]) (st' := [.inl ((Int.tmod ((Int32.ofInt v2 >>> (Int32.ofInt 6 &&& 31)).toInt) 121) - 60), .inl (s0), .inr (.inl (some 0))]) (M' := M) rfl ⟨⟨by decide, by decide⟩, ⟨by decide, by decide⟩, c2_0, ⟨by decide, by decide⟩, trivial⟩ ?_
        refine am_WcallV (y := 87) (n := 3) (a := 0) (f := 329) (as := [.inl (s0), .inl ((Int.tmod ((Int32.ofInt v2 >>> (Int32.ofInt 6 &&& 31)).toInt) 121) - 60)]) (st' := []) rfl rfl rfl rfl rfl rfl rfl rfl rfl rfl (Nat.zero_le _) rfl (am_CC_le (Nat.le_of_ble_eq_true rfl) (tm_X5_correct h)) (fun r M40 q => ?_) (fun E M q => hX _ _ q)
        obtain ⟨x39, rfl, h⟩ := q
        refine am_Wrun 1 (ps := [-128 ≤ ((-60) : Int) ∧ ((-60) : Int) ≤ 127]) (pc' := 331) (lv' := [(4, .inl (s0)), (0, .inr (.inl (some 0))), (1, .inl (v1)), (2, .inl (v2)), (3, .inl (v3))]) (st' := [.inl ((-60)), .inl (x39)]) (M' := M40) rfl ⟨⟨by decide, by decide⟩, trivial⟩ ?_
        obtain ⟨b0, ht, hf⟩ := h
        refine am_Wbr (P := [am_rg x39, am_rg (-60)]) (c := x39 < (-60)) (t := 338) (f := 334) (st' := []) rfl rfl ⟨b0, (am_rgd rfl), trivial⟩ rfl (fun q => ?_) (fun q => ?_)
        · have h := ht q
          refine am_Wrun 1 (ps := []) (pc' := 339) (lv' := [(4, .inl (s0)), (0, .inr (.inl (some 0))), (1, .inl (v1)), (2, .inl (v2)), (3, .inl (v3))]) (st' := [.inl (0)]) (M' := M40) rfl trivial ?_
          exact am_Wretz rfl rfl (Or.inl rfl) h
        · have h := hf q
          refine am_Wrun 2 (ps := []) (pc' := 339) (lv' := [(4, .inl (s0)), (0, .inr (.inl (some 0))), (1, .inl (v1)), (2, .inl (v2)), (3, .inl (v3))]) (st' := [.inl (1)]) (M' := M40) rfl trivial ?_
          exact am_Wretz rfl rfl (Or.inr rfl) h
    | 6, _, e2 =>
      have h := j6 e2
      refine ⟨_, 340, rfl, rfl, ?_⟩
      refine am_Wrun 2 (ps := []) (pc' := 342) (lv' := [(4, .inl (s0)), (0, .inr (.inl (some 0))), (1, .inl (v1)), (2, .inl (v2)), (3, .inl (v3))]) (st' := [.inl (1), .inr (.inl (some 0))]) (M' := M) rfl trivial ?_
      refine am_WcallV (y := 51) (n := 2) (a := 0) (f := 345) (as := [.inl (1)]) (st' := []) rfl rfl rfl rfl rfl rfl rfl rfl rfl rfl (Nat.zero_le _) rfl (am_CC_le (Nat.le_of_ble_eq_true rfl) (tm_X5_count h)) (fun r M42 q => ?_) (fun E M q => hX _ _ q)
      obtain ⟨x41, rfl, h⟩ := q
      refine am_Wrun 2 (ps := []) (pc' := 348) (lv' := [(10, .inl (x41)), (4, .inl (s0)), (0, .inr (.inl (some 0))), (1, .inl (v1)), (2, .inl (v2)), (3, .inl (v3))]) (st' := [.inr (.inl (some 0))]) (M' := M42) rfl trivial ?_
      refine am_WcallV (y := 0) (n := 1) (a := 0) (f := 351) (as := []) (st' := []) rfl rfl rfl rfl rfl rfl rfl rfl rfl rfl (Nat.zero_le _) rfl (am_CC_le (Nat.le_of_ble_eq_true rfl) (tm_X5_mend h)) (fun r M44 q => ?_) (fun _ _ q => q.elim)
      obtain ⟨x43, rfl, h⟩ := q
      refine am_Wrun 2 (ps := []) (pc' := 353) (lv' := [(10, .inl (x41)), (4, .inl (s0)), (0, .inr (.inl (some 0))), (1, .inl (v1)), (2, .inl (v2)), (3, .inl (v3))]) (st' := [.inl (1), .inr (.inl (some 0)), .inl (x43)]) (M' := M44) rfl trivial ?_
      refine am_WcallV (y := 51) (n := 2) (a := 0) (f := 356) (as := [.inl (1)]) (st' := [.inl (x43)]) rfl rfl rfl rfl rfl rfl rfl rfl rfl rfl (Nat.zero_le _) rfl (am_CC_le (Nat.le_of_ble_eq_true rfl) (tm_X5_count h)) (fun r M46 q => ?_) (fun E M q => hX _ _ q)
      obtain ⟨x45, rfl, h⟩ := q
      refine am_Wrun 2 (ps := []) (pc' := 359) (lv' := [(10, .inl (x41)), (4, .inl (s0)), (0, .inr (.inl (some 0))), (1, .inl (v1)), (2, .inl (v2)), (3, .inl (v3))]) (st' := [.inl (x45 - x41), .inl (x43)]) (M' := M46) rfl trivial ?_
      obtain ⟨b0, b1, ht, hf⟩ := h
      refine am_Wbr (P := [am_rg x43, am_rg (x45 - x41)]) (c := ¬ x43 = (x45 - x41)) (t := 374) (f := 362) (st' := []) rfl rfl ⟨b0, b1, trivial⟩ rfl (fun q => ?_) (fun q => ?_)
      · have h := ht q
        refine am_Wrun 1 (ps := []) (pc' := 375) (lv' := [(10, .inl (x41)), (4, .inl (s0)), (0, .inr (.inl (some 0))), (1, .inl (v1)), (2, .inl (v2)), (3, .inl (v3))]) (st' := [.inl (0)]) (M' := M46) rfl trivial ?_
        exact am_Wretz rfl rfl (Or.inl rfl) h
      · have h := hf q
        refine am_Wrun 2 (ps := []) (pc' := 364) (lv' := [(10, .inl (x41)), (4, .inl (s0)), (0, .inr (.inl (some 0))), (1, .inl (v1)), (2, .inl (v2)), (3, .inl (v3))]) (st' := [.inl (2), .inr (.inl (some 0))]) (M' := M46) rfl trivial ?_
        refine am_WcallV (y := 51) (n := 2) (a := 0) (f := 367) (as := [.inl (2)]) (st' := []) rfl rfl rfl rfl rfl rfl rfl rfl rfl rfl (Nat.zero_le _) rfl (am_CC_le (Nat.le_of_ble_eq_true rfl) (tm_X5_count h)) (fun r M48 q => ?_) (fun E M q => hX _ _ q)
        obtain ⟨x47, rfl, h⟩ := q
        obtain ⟨b0, ht, hf⟩ := h
        refine am_Wbr (P := [am_rg x47]) (c := ¬ x47 = 0) (t := 374) (f := 370) (st' := []) rfl rfl ⟨b0, trivial⟩ rfl (fun q => ?_) (fun q => ?_)
        · have h := ht q
          refine am_Wrun 1 (ps := []) (pc' := 375) (lv' := [(10, .inl (x41)), (4, .inl (s0)), (0, .inr (.inl (some 0))), (1, .inl (v1)), (2, .inl (v2)), (3, .inl (v3))]) (st' := [.inl (0)]) (M' := M48) rfl trivial ?_
          exact am_Wretz rfl rfl (Or.inl rfl) h
        · have h := hf q
          refine am_Wrun 2 (ps := []) (pc' := 375) (lv' := [(10, .inl (x41)), (4, .inl (s0)), (0, .inr (.inl (some 0))), (1, .inl (v1)), (2, .inl (v2)), (3, .inl (v3))]) (st' := [.inl (1)]) (M' := M48) rfl trivial ?_
          exact am_Wretz rfl rfl (Or.inr rfl) h
    | n + 7, hj, _ => exact absurd hj (by omega)
set_option maxRecDepth 20000 in
theorem tm_L_acts {a1 : Int} {M : am_M} {Q : Int → am_M → Prop} {X : am_X} (h : wp_L_acts a1 M Q X) : am_CC 9 79 [.inr (.inl (some 0)), .inl (a1)] M (am_QI Q) X := by
  refine ⟨Nat.le_of_ble_eq_true rfl, ?_⟩
  show am_W (am_CC 8) dt_L_acts 8 0 none (am_QI Q) (am_qx 79 X) (0, 0, [(0, .inr (.inl (some 0))), (1, .inl (a1))], [], M)
  have hX : ∀ E M, X E M → am_qx 79 X E M := fun E M q => ⟨⟨rfl, by decide⟩, q⟩
  refine am_Wrun 6 (ps := []) (pc' := 6) (lv' := [(2, .inl ((Int32.ofInt a1 >>> (Int32.ofInt 3 &&& 31)).toInt)), (0, .inr (.inl (some 0))), (1, .inl (a1))]) (st' := [.inl (0), .inr (.inl (some 0))]) (M' := M) rfl trivial ?_
  refine am_WcallV (y := 51) (n := 2) (a := 0) (f := 9) (as := [.inl (0)]) (st' := []) rfl rfl rfl rfl rfl rfl rfl rfl rfl rfl (Nat.zero_le _) rfl (am_CC_le (Nat.le_of_ble_eq_true rfl) (tm_X5_count h)) (fun r M2 q => ?_) (fun E M q => hX _ _ q)
  obtain ⟨x1, rfl, h⟩ := q
  refine am_Wrun 2 (ps := []) (pc' := 11) (lv' := [(3, .inl (x1)), (2, .inl ((Int32.ofInt a1 >>> (Int32.ofInt 3 &&& 31)).toInt)), (0, .inr (.inl (some 0))), (1, .inl (a1))]) (st' := [.inl (x1)]) (M' := M2) rfl trivial ?_
  obtain ⟨b0, ht, hf⟩ := h
  refine am_Wbr (P := [am_rg x1]) (c := ¬ x1 = 0) (t := 18) (f := 14) (st' := []) rfl rfl ⟨b0, trivial⟩ rfl (fun q => ?_) (fun q => ?_)
  · have h := ht q
    obtain ⟨c0_0, h⟩ := h
    refine am_Wrun 3 (ps := [am_rg ((Int32.ofInt a1 >>> (Int32.ofInt 3 &&& 31)).toInt) ∧ am_rg x1 ∧ (0 : Int) < x1]) (pc' := 21) (lv' := [(3, .inl (x1)), (2, .inl ((Int32.ofInt a1 >>> (Int32.ofInt 3 &&& 31)).toInt)), (0, .inr (.inl (some 0))), (1, .inl (a1))]) (st' := [.inl (Int.tmod ((Int32.ofInt a1 >>> (Int32.ofInt 3 &&& 31)).toInt) x1)]) (M' := M2) rfl ⟨c0_0, trivial⟩ ?_
    refine am_W_sub [2, 3, 1, 0] rfl ?_
    exact tj_L_acts_21 hX a1 ((Int32.ofInt a1 >>> (Int32.ofInt 3 &&& 31)).toInt) x1 (Int.tmod ((Int32.ofInt a1 >>> (Int32.ofInt 3 &&& 31)).toInt) x1) M2 h
  · have h := hf q
    refine am_Wrun 2 (ps := []) (pc' := 21) (lv' := [(3, .inl (x1)), (2, .inl ((Int32.ofInt a1 >>> (Int32.ofInt 3 &&& 31)).toInt)), (0, .inr (.inl (some 0))), (1, .inl (a1))]) (st' := [.inl (0)]) (M' := M2) rfl trivial ?_
    refine am_W_sub [2, 3, 1, 0] rfl ?_
    exact tj_L_acts_21 hX a1 ((Int32.ofInt a1 >>> (Int32.ofInt 3 &&& 31)).toInt) x1 0 M2 h
abbrev dt_X4_leastOathFor : am_D := (tk_X4_leastOathFor, 4, 4, some .int, tb_hn 63)
def wl_X4_leastOathFor_10 (Q : Int → am_M → Prop) : Nat → Int → Int → Int → am_M → Prop
  | 0, _, _, _, _ => False
  | n + 1, v1, v2, v3, M => (am_rg v3) ∧ (v3 ≤ 0 → Q v2 M) ∧ (¬ v3 ≤ 0 → wp_X4_findFewest ((v2 + v3) - 1) M (fun x2 M3 => (am_rg x2) ∧ (am_rg v1) ∧ (x2 ≤ v1 → (am_rg v3 ∧ am_rg 2 ∧ (0 : Int) < 2) ∧ (wl_X4_leastOathFor_10 Q n v1 v2 (Int.tdiv v3 2) M3)) ∧ (¬ x2 ≤ v1 → (am_rg v3 ∧ am_rg 2 ∧ (0 : Int) < 2) ∧ (wl_X4_leastOathFor_10 Q n v1 (v2 + v3) (Int.tdiv v3 2) M3))))
def wp_X4_leastOathFor (a0 : Int) (M : am_M) (Q : Int → am_M → Prop) : Prop := wp_X4_findNeeds M (fun M1 => ∃ e10, wl_X4_leastOathFor_10 Q e10 a0 0 256 M1)
set_option maxRecDepth 20000 in
theorem tw_X4_leastOathFor_10 {Q : Int → am_M → Prop} {QX : am_X} : ∀ (n : Nat) (v1 : Int) (v2 : Int) (v3 : Int) (M : am_M), wl_X4_leastOathFor_10 Q n v1 v2 v3 M → am_W (am_CC 3) dt_X4_leastOathFor 3 0 none (am_QI Q) QX (0, 10, [(0, .inr (.inl (some 10))), (1, .inl (v1)), (2, .inl (v2)), (3, .inl (v3))], [], M)
  | 0, _, _, _, _, h => h.elim
  | n + 1, v1, v2, v3, M, h => by
    refine am_Wrun 1 (ps := []) (pc' := 11) (lv' := [(0, .inr (.inl (some 10))), (1, .inl (v1)), (2, .inl (v2)), (3, .inl (v3))]) (st' := [.inl (v3)]) (M' := M) rfl trivial ?_
    obtain ⟨b0, ht, hf⟩ := h
    refine am_Wbr (P := [am_rg v3]) (c := v3 ≤ 0) (t := 38) (f := 14) (st' := []) rfl rfl ⟨b0, trivial⟩ rfl (fun q => ?_) (fun q => ?_)
    · have h := ht q
      refine am_Wrun 1 (ps := []) (pc' := 39) (lv' := [(0, .inr (.inl (some 10))), (1, .inl (v1)), (2, .inl (v2)), (3, .inl (v3))]) (st' := [.inl (v2)]) (M' := M) rfl trivial ?_
      exact am_Wreti rfl rfl h
    · have h := hf q
      refine am_Wrun 6 (ps := []) (pc' := 20) (lv' := [(0, .inr (.inl (some 10))), (1, .inl (v1)), (2, .inl (v2)), (3, .inl (v3))]) (st' := [.inl ((v2 + v3) - 1), .inr (.inl (some 10))]) (M' := M) rfl trivial ?_
      refine am_WcallV (y := 25) (n := 2) (a := 10) (f := 23) (as := [.inl ((v2 + v3) - 1)]) (st' := []) rfl rfl rfl rfl rfl rfl rfl rfl rfl rfl (Nat.zero_le _) rfl (am_CC_le (Nat.le_of_ble_eq_true rfl) (tm_X4_findFewest h)) (fun r M3 q => ?_) (fun _ _ q => q.elim)
      obtain ⟨x2, rfl, h⟩ := q
      refine am_Wrun 1 (ps := []) (pc' := 24) (lv' := [(0, .inr (.inl (some 10))), (1, .inl (v1)), (2, .inl (v2)), (3, .inl (v3))]) (st' := [.inl (v1), .inl (x2)]) (M' := M3) rfl trivial ?_
      obtain ⟨b0, b1, ht, hf⟩ := h
      refine am_Wbr (P := [am_rg x2, am_rg v1]) (c := x2 ≤ v1) (t := 31) (f := 27) (st' := []) rfl rfl ⟨b0, b1, trivial⟩ rfl (fun q => ?_) (fun q => ?_)
      · have h := ht q
        obtain ⟨c0_0, h⟩ := h
        refine am_Wrun 5 (ps := [am_rg v3 ∧ am_rg 2 ∧ (0 : Int) < 2]) (pc' := 10) (lv' := [(3, .inl (Int.tdiv v3 2)), (0, .inr (.inl (some 10))), (1, .inl (v1)), (2, .inl (v2))]) (st' := []) (M' := M3) rfl ⟨c0_0, trivial⟩ ?_
        refine am_W_sub [1, 2, 3, 0] rfl ?_
        exact tw_X4_leastOathFor_10 n v1 v2 (Int.tdiv v3 2) M3 h
      · have h := hf q
        obtain ⟨c0_0, h⟩ := h
        refine am_Wrun 9 (ps := [am_rg v3 ∧ am_rg 2 ∧ (0 : Int) < 2]) (pc' := 10) (lv' := [(3, .inl (Int.tdiv v3 2)), (2, .inl (v2 + v3)), (0, .inr (.inl (some 10))), (1, .inl (v1))]) (st' := []) (M' := M3) rfl ⟨c0_0, trivial⟩ ?_
        refine am_W_sub [2, 3, 1, 0] rfl ?_
        exact tw_X4_leastOathFor_10 n v1 (v2 + v3) (Int.tdiv v3 2) M3 h
set_option maxRecDepth 20000 in
theorem tm_X4_leastOathFor {a0 : Int} {M : am_M} {Q : Int → am_M → Prop} (h : wp_X4_leastOathFor a0 M Q) : am_CC 4 63 [.inr (.inl (some 10)), .inl (a0)] M (am_QI Q) (fun _ _ => False) := by
  refine ⟨Nat.le_of_ble_eq_true rfl, ?_⟩
  show am_W (am_CC 3) dt_X4_leastOathFor 3 0 none (am_QI Q) (am_qx 63 (fun _ _ => False)) (0, 0, [(0, .inr (.inl (some 10))), (1, .inl (a0))], [], M)
  refine am_Wrun 1 (ps := []) (pc' := 1) (lv' := [(0, .inr (.inl (some 10))), (1, .inl (a0))]) (st' := [.inr (.inl (some 10))]) (M' := M) rfl trivial ?_
  refine am_WcallV (y := 21) (n := 1) (a := 10) (f := 4) (as := []) (st' := []) rfl rfl rfl rfl rfl rfl rfl rfl rfl rfl (Nat.zero_le _) rfl (am_CC_le (Nat.le_of_ble_eq_true rfl) (tm_X4_findNeeds h)) (fun r M1 q => ?_) (fun _ _ q => q.elim)
  obtain ⟨rfl, h⟩ := q
  refine am_Wrun 4 (ps := [-32768 ≤ (256 : Int) ∧ (256 : Int) ≤ 32767]) (pc' := 10) (lv' := [(3, .inl (256)), (2, .inl (0)), (0, .inr (.inl (some 10))), (1, .inl (a0))]) (st' := []) (M' := M1) rfl ⟨⟨by decide, by decide⟩, trivial⟩ ?_
  refine am_W_sub [2, 3, 1, 0] rfl ?_
  obtain ⟨n10, h⟩ := h
  exact tw_X4_leastOathFor_10 n10 a0 0 256 M1 h
abbrev dt_X5_leastOath : am_D := (tk_X5_leastOath, 5, 3, some .int, tb_hn 62)
def wp_X5_leastOath (a0 : Int) (M : am_M) (Q : Int → am_M → Prop) (X : am_X) : Prop := wp_X5_refuseOutside a0 60 M (fun M1 => wp_X4_leastOathFor a0 M1 (fun x2 M3 => (am_rg x2) ∧ (500 < x2 → Q (-1000000) M3) ∧ (¬ 500 < x2 → Q x2 M3))) X
set_option maxRecDepth 20000 in
theorem tm_X5_leastOath {a0 : Int} {M : am_M} {Q : Int → am_M → Prop} {X : am_X} (h : wp_X5_leastOath a0 M Q X) : am_CC 7 62 [.inr (.inl (some 0)), .inl (a0)] M (am_QI Q) X := by
  refine ⟨Nat.le_of_ble_eq_true rfl, ?_⟩
  show am_W (am_CC 6) dt_X5_leastOath 6 0 none (am_QI Q) (am_qx 62 X) (0, 0, [(0, .inr (.inl (some 0))), (1, .inl (a0))], [], M)
  have hX : ∀ E M, X E M → am_qx 62 X E M := fun E M q => ⟨⟨rfl, by decide⟩, q⟩
  refine am_Wrun 2 (ps := [-128 ≤ (60 : Int) ∧ (60 : Int) ≤ 127]) (pc' := 3) (lv' := [(0, .inr (.inl (some 0))), (1, .inl (a0))]) (st' := [.inl (60), .inl (a0)]) (M' := M) rfl ⟨⟨by decide, by decide⟩, trivial⟩ ?_
  refine am_WcallS (y := 19) (n := 2) (f := 6) (co := 0) (as := [.inl (a0), .inl (60)]) (st' := []) rfl rfl rfl rfl rfl rfl rfl rfl rfl (Nat.zero_le _) rfl (am_CC_le (Nat.le_of_ble_eq_true rfl) (tm_X5_refuseOutside h)) (fun r M1 q => ?_) (fun E M q => hX _ _ q)
  obtain ⟨rfl, h⟩ := q
  refine am_Wrun 3 (ps := []) (pc' := 11) (lv' := [(0, .inr (.inl (some 0))), (1, .inl (a0))]) (st' := [.inl (a0), .inr (.inl (some 10))]) (M' := M1) rfl trivial ?_
  refine am_WcallV (y := 63) (n := 2) (a := 10) (f := 14) (as := [.inl (a0)]) (st' := []) rfl rfl rfl rfl rfl rfl rfl rfl rfl rfl (Nat.zero_le _) rfl (am_CC_le (Nat.le_of_ble_eq_true rfl) (tm_X4_leastOathFor h)) (fun r M3 q => ?_) (fun _ _ q => q.elim)
  obtain ⟨x2, rfl, h⟩ := q
  refine am_Wrun 3 (ps := [-32768 ≤ (500 : Int) ∧ (500 : Int) ≤ 32767]) (pc' := 19) (lv' := [(2, .inl (x2)), (0, .inr (.inl (some 0))), (1, .inl (a0))]) (st' := [.inl (500), .inl (x2)]) (M' := M3) rfl ⟨⟨by decide, by decide⟩, trivial⟩ ?_
  obtain ⟨b0, ht, hf⟩ := h
  refine am_Wbr (P := [am_rg x2, am_rg 500]) (c := 500 < x2) (t := 26) (f := 22) (st' := []) rfl rfl ⟨b0, (am_rgd rfl), trivial⟩ rfl (fun q => ?_) (fun q => ?_)
  · have h := ht q
    refine am_Wrun 1 (ps := []) (pc' := 28) (lv' := [(2, .inl (x2)), (0, .inr (.inl (some 0))), (1, .inl (a0))]) (st' := [.inl ((-1000000))]) (M' := M3) rfl trivial ?_
    exact am_Wreti rfl rfl h
  · have h := hf q
    refine am_Wrun 2 (ps := []) (pc' := 28) (lv' := [(2, .inl (x2)), (0, .inr (.inl (some 0))), (1, .inl (a0))]) (st' := [.inl (x2)]) (M' := M3) rfl trivial ?_
    exact am_Wreti rfl rfl h
