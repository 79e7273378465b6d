abbrev dt_L_law : am_D := (tk_L_law, 9, 5, some .boolean, tb_hn 88)
def wj_L_law_201 (Q : Int → am_M → Prop) (X : am_X) (scr : Int × (Int → Int)) (cap : Nat) (b : Nat) (v2 : Int) (v3 : Int) (v4 : Int) (M : am_M) : Prop := (am_rg v2) ∧ (v2 = 0 → Q 0 M) ∧ (¬ v2 = 0 → (b ≤ cap) ∧ wp_X5_count 0 M (fun x7 M8 => (am_rg x7) ∧ (¬ x7 = 0 → Q 0 M8) ∧ (¬ (¬ x7 = 0) → (am_rg v4) ∧ (am_rg v3) ∧ (v4 < v3 → Q 0 M8) ∧ (¬ v4 < v3 → Q 1 M8))) X)
def wl_L_law_150 (Q : Int → am_M → Prop) (X : am_X) (scr : Int × (Int → Int)) (cap : Nat) : Nat → Nat → Int → Int → Int → am_M → Prop
  | 0, _, _, _, _, _ => False
  | n + 1, b, v2, v3, v4, M => (am_rg v2) ∧ (v2 = 0 → wj_L_law_201 Q X scr cap b v2 v3 v4 M) ∧ (¬ v2 = 0 → (b ≤ cap) ∧ wp_X5_count 3 M (fun x9 M10 => (am_rg x9) ∧ (x9 ≤ 0 → wj_L_law_201 Q X scr cap b v2 v3 v4 M10) ∧ (¬ x9 ≤ 0 → (b ≤ cap) ∧ wp_X5_stretch 0 1 M10 (fun x11 M12 => (b ≤ cap) ∧ wp_X5_tear 0 M12 (fun x13 M14 => (am_rg x13) ∧ (x13 ≤ 0 → wl_L_law_150 Q X scr cap n b 0 v3 (v4 + x11) M14) ∧ (¬ x13 ≤ 0 → (b ≤ cap) ∧ wp_X5_count 8 M14 (fun x15 M16 => (am_rg x15) ∧ (am_rg (v4 + x11)) ∧ (¬ x15 = (v4 + x11) → wl_L_law_150 Q X scr cap n b 0 v3 (v4 + x11) M16) ∧ (¬ (¬ x15 = (v4 + x11)) → wl_L_law_150 Q X scr cap n b 1 v3 (v4 + x11) M16)) X)) X) X)) X)
def wj_L_law_87 (Q : Int → am_M → Prop) (X : am_X) (scr : Int × (Int → Int)) (cap : Nat) (b : Nat) (v2 : Int) (M : am_M) : Prop := (b ≤ cap) ∧ wp_X5_count 0 M (fun x3 M4 => (b ≤ cap) ∧ wp_X5_count 8 M4 (fun x5 M6 => (am_rg v2) ∧ (v2 = 0 → ∃ e150, wl_L_law_150 Q X scr cap e150 b 0 x3 x5 M6) ∧ (¬ v2 = 0 → (b ≤ cap) ∧ wp_X5_set 0 7 M6 (fun x17 M18 => (am_rg x17) ∧ (x17 < 0 → ∃ e150, wl_L_law_150 Q X scr cap e150 b 0 x3 x5 M18) ∧ (¬ x17 < 0 → (b ≤ cap) ∧ wp_X5_set 0 8 M18 (fun x19 M20 => (am_rg x19) ∧ (¬ x19 = 7 → ∃ e150, wl_L_law_150 Q X scr cap e150 b 0 x3 x5 M20) ∧ (¬ (¬ x19 = 7) → (b ≤ cap) ∧ wp_X5_undo M20 (fun x21 M22 => (am_rg x21) ∧ (x21 < 0 → ∃ e150, wl_L_law_150 Q X scr cap e150 b 0 x3 x5 M22) ∧ (¬ x21 < 0 → (b ≤ cap) ∧ wp_X5_setting 0 M22 (fun x23 M24 => (am_rg x23) ∧ (¬ x23 = 7 → ∃ e150, wl_L_law_150 Q X scr cap e150 b 0 x3 x5 M24) ∧ (¬ (¬ x23 = 7) → ∃ e150, wl_L_law_150 Q X scr cap e150 b 1 x3 x5 M24)) X)) X)) X)) X)) X) X
def wl_L_law_46 (Q : Int → am_M → Prop) (X : am_X) (scr : Int × (Int → Int)) (cap : Nat) : Nat → Nat → Int → Int → am_M → Prop
  | 0, _, _, _, _ => False
  | n + 1, b, v2, v3, M => (am_rg v3) ∧ (44 ≤ v3 → wj_L_law_87 Q X scr cap b v2 M) ∧ (¬ 44 ≤ v3 → (am_rg v2) ∧ (v2 = 0 → wj_L_law_87 Q X scr cap b v2 M) ∧ (¬ v2 = 0 → (am_rg v3) ∧ (0 ≤ v3) ∧ ((b ≤ cap) ∧ wp_L_acts (am_ce scr.1 scr.2 v3) M (fun x25 M26 => (am_rg x25) ∧ (x25 = 0 → wl_L_law_46 Q X scr cap n b 0 (v3 + 1) M26) ∧ (¬ x25 = 0 → (b ≤ cap) ∧ wp_L_sound M26 (fun x27 M28 => (am_rg x27) ∧ (x27 = 0 → wl_L_law_46 Q X scr cap n b 0 (v3 + 1) M28) ∧ (¬ x27 = 0 → wl_L_law_46 Q X scr cap n b 1 (v3 + 1) M28)) X)) X)))
def wj_L_law_8 (Q : Int → am_M → Prop) (X : am_X) (scr : Int × (Int → Int)) (cap : Nat) (b : Nat) (M : am_M) : Prop := (b ≤ cap) ∧ wp_L_sound M (fun x1 M2 => (am_rg x1) ∧ (x1 = 0 → ∃ e46, wl_L_law_46 Q X scr cap e46 b 0 0 M2) ∧ (¬ x1 = 0 → (b ≤ cap) ∧ wp_X5_mend M2 (fun x29 M30 => (am_rg x29) ∧ (¬ x29 = 0 → ∃ e46, wl_L_law_46 Q X scr cap e46 b 0 0 M30) ∧ (¬ (¬ x29 = 0) → (b ≤ cap) ∧ wp_X5_thin 2 M30 (fun x31 M32 => (am_rg x31) ∧ (¬ x31 = 0 → ∃ e46, wl_L_law_46 Q X scr cap e46 b 0 0 M32) ∧ (¬ (¬ x31 = 0) → (b ≤ cap) ∧ wp_X5_leastOath 0 M32 (fun x33 M34 => (am_rg x33) ∧ (¬ x33 = 0 → ∃ e46, wl_L_law_46 Q X scr cap e46 b 0 0 M34) ∧ (¬ (¬ x33 = 0) → ∃ e46, wl_L_law_46 Q X scr cap e46 b 1 0 M34)) X)) X)))) X
set_option maxRecDepth 20000 in
theorem tj_L_law_201 {Q : Int → am_M → Prop} {X : am_X} {QX : am_X} {scr : Int × (Int → Int)} {cap : Nat} (hX : ∀ E M, X E M → QX E M) (b : Nat) (v2 : Int) (v3 : Int) (v4 : Int) (M : am_M) (h : wj_L_law_201 Q X scr cap b v2 v3 v4 M) : am_W (am_CC 9) dt_L_law 8 cap scr (am_QI Q) QX (b, 201, [(1, .inr (.inl (some 0))), (2, .inl (v2)), (3, .inl (v3)), (4, .inl (v4))], [], M) := by
  refine am_Wrun 1 (ps := []) (pc' := 202) (lv' := [(1, .inr (.inl (some 0))), (2, .inl (v2)), (3, .inl (v3)), (4, .inl (v4))]) (st' := [.inl (v2)]) (M' := M) rfl trivial ?_
  obtain ⟨b0, ht, hf⟩ := h
  refine am_Wbr (P := [am_rg v2]) (c := v2 = 0) (t := 223) (f := 205) (st' := []) rfl rfl ⟨b0, trivial⟩ rfl (fun q => ?_) (fun q => ?_)
  · have h := ht q
    refine am_Wrun 1 (ps := []) (pc' := 224) (lv' := [(1, .inr (.inl (some 0))), (2, .inl (v2)), (3, .inl (v3)), (4, .inl (v4))]) (st' := [.inl (0)]) (M' := M) rfl trivial ?_
    exact am_Wretz rfl rfl (Or.inl rfl) h
  · have h := hf q
    refine am_Wrun 2 (ps := []) (pc' := 207) (lv' := [(1, .inr (.inl (some 0))), (2, .inl (v2)), (3, .inl (v3)), (4, .inl (v4))]) (st' := [.inl (0), .inr (.inl (some 0))]) (M' := M) rfl trivial ?_
    obtain ⟨hbc, h⟩ := h
    refine am_WcallV (y := 51) (n := 2) (a := 0) (f := 210) (as := [.inl (0)]) (st' := []) rfl rfl rfl rfl rfl rfl rfl rfl rfl rfl hbc rfl (am_CC_le (Nat.le_of_ble_eq_true rfl) (tm_X5_count h)) (fun r M8 q => ?_) (fun E M q => hX _ _ q)
    obtain ⟨x7, rfl, h⟩ := q
    obtain ⟨b0, ht, hf⟩ := h
    refine am_Wbr (P := [am_rg x7]) (c := ¬ x7 = 0) (t := 223) (f := 213) (st' := []) rfl rfl ⟨b0, trivial⟩ rfl (fun q => ?_) (fun q => ?_)
    · have h := ht q
      refine am_Wrun 1 (ps := []) (pc' := 224) (lv' := [(1, .inr (.inl (some 0))), (2, .inl (v2)), (3, .inl (v3)), (4, .inl (v4))]) (st' := [.inl (0)]) (M' := M8) rfl trivial ?_
      exact am_Wretz rfl rfl (Or.inl rfl) h
    · have h := hf q
      refine am_Wrun 2 (ps := []) (pc' := 216) (lv' := [(1, .inr (.inl (some 0))), (2, .inl (v2)), (3, .inl (v3)), (4, .inl (v4))]) (st' := [.inl (v3), .inl (v4)]) (M' := M8) rfl trivial ?_
      obtain ⟨b0, b1, ht, hf⟩ := h
      refine am_Wbr (P := [am_rg v4, am_rg v3]) (c := v4 < v3) (t := 223) (f := 219) (st' := []) rfl rfl ⟨b0, b1, trivial⟩ rfl (fun q => ?_) (fun q => ?_)
      · have h := ht q
        refine am_Wrun 1 (ps := []) (pc' := 224) (lv' := [(1, .inr (.inl (some 0))), (2, .inl (v2)), (3, .inl (v3)), (4, .inl (v4))]) (st' := [.inl (0)]) (M' := M8) rfl trivial ?_
        exact am_Wretz rfl rfl (Or.inl rfl) h
      · have h := hf q
        refine am_Wrun 2 (ps := []) (pc' := 224) (lv' := [(1, .inr (.inl (some 0))), (2, .inl (v2)), (3, .inl (v3)), (4, .inl (v4))]) (st' := [.inl (1)]) (M' := M8) rfl trivial ?_
        exact am_Wretz rfl rfl (Or.inr rfl) h
set_option maxRecDepth 20000 in
theorem tw_L_law_150 {Q : Int → am_M → Prop} {X : am_X} {QX : am_X} {scr : Int × (Int → Int)} {cap : Nat} (hX : ∀ E M, X E M → QX E M) : ∀ (n : Nat) (b : Nat) (v2 : Int) (v3 : Int) (v4 : Int) (M : am_M), wl_L_law_150 Q X scr cap n b v2 v3 v4 M → am_W (am_CC 9) dt_L_law 8 cap scr (am_QI Q) QX (b, 150, [(1, .inr (.inl (some 0))), (2, .inl (v2)), (3, .inl (v3)), (4, .inl (v4))], [], M)
  | 0, _, _, _, _, _, h => h.elim
  | n + 1, b, v2, v3, v4, M, h => by
    refine am_Wrun 1 (ps := []) (pc' := 151) (lv' := [(1, .inr (.inl (some 0))), (2, .inl (v2)), (3, .inl (v3)), (4, .inl (v4))]) (st' := [.inl (v2)]) (M' := M) rfl trivial ?_
    obtain ⟨b0, ht, hf⟩ := h
    refine am_Wbr (P := [am_rg v2]) (c := v2 = 0) (t := 201) (f := 154) (st' := []) rfl rfl ⟨b0, trivial⟩ rfl (fun q => ?_) (fun q => ?_)
    · have h := ht q
      refine am_W_sub [0, 1, 2, 3] rfl ?_
      exact tj_L_law_201 hX b v2 v3 v4 M h
    · have h := hf q
      refine am_Wrun 2 (ps := []) (pc' := 156) (lv' := [(1, .inr (.inl (some 0))), (2, .inl (v2)), (3, .inl (v3)), (4, .inl (v4))]) (st' := [.inl (3), .inr (.inl (some 0))]) (M' := M) rfl trivial ?_
      obtain ⟨hbc, h⟩ := h
      refine am_WcallV (y := 51) (n := 2) (a := 0) (f := 159) (as := [.inl (3)]) (st' := []) rfl rfl rfl rfl rfl rfl rfl rfl rfl rfl hbc rfl (am_CC_le (Nat.le_of_ble_eq_true rfl) (tm_X5_count h)) (fun r M10 q => ?_) (fun E M q => hX _ _ q)
      obtain ⟨x9, rfl, h⟩ := q
      obtain ⟨b0, ht, hf⟩ := h
      refine am_Wbr (P := [am_rg x9]) (c := x9 ≤ 0) (t := 201) (f := 162) (st' := []) rfl rfl ⟨b0, trivial⟩ rfl (fun q => ?_) (fun q => ?_)
      · have h := ht q
        refine am_W_sub [0, 1, 2, 3] rfl ?_
        exact tj_L_law_201 hX b v2 v3 v4 M10 h
      · have h := hf q
        refine am_Wrun 4 (ps := []) (pc' := 167) (lv' := [(1, .inr (.inl (some 0))), (2, .inl (v2)), (3, .inl (v3)), (4, .inl (v4))]) (st' := [.inl (1), .inl (0), .inr (.inl (some 0)), .inl (v4)]) (M' := M10) rfl trivial ?_
        obtain ⟨hbc, h⟩ := h
        refine am_WcallV (y := 47) (n := 3) (a := 0) (f := 170) (as := [.inl (0), .inl (1)]) (st' := [.inl (v4)]) rfl rfl rfl rfl rfl rfl rfl rfl rfl rfl hbc rfl (am_CC_le (Nat.le_of_ble_eq_true rfl) (tm_X5_stretch h)) (fun r M12 q => ?_) (fun E M q => hX _ _ q)
        obtain ⟨x11, rfl, h⟩ := q
        refine am_Wrun 4 (ps := []) (pc' := 175) (lv' := [(4, .inl (v4 + x11)), (1, .inr (.inl (some 0))), (2, .inl (v2)), (3, .inl (v3))]) (st' := [.inl (0), .inr (.inl (some 0))]) (M' := M12) rfl trivial ?_
        obtain ⟨hbc, h⟩ := h
        refine am_WcallV (y := 32) (n := 2) (a := 0) (f := 178) (as := [.inl (0)]) (st' := []) rfl rfl rfl rfl rfl rfl rfl rfl rfl rfl hbc rfl (am_CC_le (Nat.le_of_ble_eq_true rfl) (tm_X5_tear h)) (fun r M14 q => ?_) (fun E M q => hX _ _ q)
        obtain ⟨x13, rfl, h⟩ := q
        obtain ⟨b0, ht, hf⟩ := h
        refine am_Wbr (P := [am_rg x13]) (c := x13 ≤ 0) (t := 196) (f := 181) (st' := []) rfl rfl ⟨b0, trivial⟩ rfl (fun q => ?_) (fun q => ?_)
        · have h := ht q
          refine am_Wrun 3 (ps := []) (pc' := 150) (lv' := [(2, .inl (0)), (4, .inl (v4 + x11)), (1, .inr (.inl (some 0))), (3, .inl (v3))]) (st' := []) (M' := M14) rfl trivial ?_
          refine am_W_sub [2, 0, 3, 1] rfl ?_
          exact tw_L_law_150 hX n b 0 v3 (v4 + x11) M14 h
        · have h := hf q
          refine am_Wrun 2 (ps := [-128 ≤ (8 : Int) ∧ (8 : Int) ≤ 127]) (pc' := 184) (lv' := [(4, .inl (v4 + x11)), (1, .inr (.inl (some 0))), (2, .inl (v2)), (3, .inl (v3))]) (st' := [.inl (8), .inr (.inl (some 0))]) (M' := M14) rfl ⟨⟨by decide, by decide⟩, trivial⟩ ?_
          obtain ⟨hbc, h⟩ := h
          refine am_WcallV (y := 51) (n := 2) (a := 0) (f := 187) (as := [.inl (8)]) (st' := []) rfl rfl rfl rfl rfl rfl rfl rfl rfl rfl hbc rfl (am_CC_le (Nat.le_of_ble_eq_true rfl) (tm_X5_count h)) (fun r M16 q => ?_) (fun E M q => hX _ _ q)
          obtain ⟨x15, rfl, h⟩ := q
          refine am_Wrun 1 (ps := []) (pc' := 189) (lv' := [(4, .inl (v4 + x11)), (1, .inr (.inl (some 0))), (2, .inl (v2)), (3, .inl (v3))]) (st' := [.inl (v4 + x11), .inl (x15)]) (M' := M16) rfl trivial ?_
          obtain ⟨b0, b1, ht, hf⟩ := h
          refine am_Wbr (P := [am_rg x15, am_rg (v4 + x11)]) (c := ¬ x15 = (v4 + x11)) (t := 196) (f := 192) (st' := []) rfl rfl ⟨b0, b1, trivial⟩ rfl (fun q => ?_) (fun q => ?_)
          · have h := ht q
            refine am_Wrun 3 (ps := []) (pc' := 150) (lv' := [(2, .inl (0)), (4, .inl (v4 + x11)), (1, .inr (.inl (some 0))), (3, .inl (v3))]) (st' := []) (M' := M16) rfl trivial ?_
            refine am_W_sub [2, 0, 3, 1] rfl ?_
            exact tw_L_law_150 hX n b 0 v3 (v4 + x11) M16 h
          · have h := hf q
            refine am_Wrun 4 (ps := []) (pc' := 150) (lv' := [(2, .inl (1)), (4, .inl (v4 + x11)), (1, .inr (.inl (some 0))), (3, .inl (v3))]) (st' := []) (M' := M16) rfl trivial ?_
            refine am_W_sub [2, 0, 3, 1] rfl ?_
            exact tw_L_law_150 hX n b 1 v3 (v4 + x11) M16 h
set_option maxRecDepth 20000 in
theorem tj_L_law_87 {Q : Int → am_M → Prop} {X : am_X} {QX : am_X} {scr : Int × (Int → Int)} {cap : Nat} (hX : ∀ E M, X E M → QX E M) (b : Nat) (v2 : Int) (M : am_M) (h : wj_L_law_87 Q X scr cap b v2 M) : am_W (am_CC 9) dt_L_law 8 cap scr (am_QI Q) QX (b, 87, [(1, .inr (.inl (some 0))), (2, .inl (v2))], [], M) := by
  refine am_Wrun 2 (ps := []) (pc' := 89) (lv' := [(1, .inr (.inl (some 0))), (2, .inl (v2))]) (st' := [.inl (0), .inr (.inl (some 0))]) (M' := M) rfl trivial ?_
  obtain ⟨hbc, h⟩ := h
  refine am_WcallV (y := 51) (n := 2) (a := 0) (f := 92) (as := [.inl (0)]) (st' := []) rfl rfl rfl rfl rfl rfl rfl rfl rfl rfl hbc rfl (am_CC_le (Nat.le_of_ble_eq_true rfl) (tm_X5_count h)) (fun r M4 q => ?_) (fun E M q => hX _ _ q)
  obtain ⟨x3, rfl, h⟩ := q
  refine am_Wrun 3 (ps := [-128 ≤ (8 : Int) ∧ (8 : Int) ≤ 127]) (pc' := 96) (lv' := [(3, .inl (x3)), (1, .inr (.inl (some 0))), (2, .inl (v2))]) (st' := [.inl (8), .inr (.inl (some 0))]) (M' := M4) rfl ⟨⟨by decide, by decide⟩, trivial⟩ ?_
  obtain ⟨hbc, h⟩ := h
  refine am_WcallV (y := 51) (n := 2) (a := 0) (f := 99) (as := [.inl (8)]) (st' := []) rfl rfl rfl rfl rfl rfl rfl rfl rfl rfl hbc rfl (am_CC_le (Nat.le_of_ble_eq_true rfl) (tm_X5_count h)) (fun r M6 q => ?_) (fun E M q => hX _ _ q)
  obtain ⟨x5, rfl, h⟩ := q
  refine am_Wrun 2 (ps := []) (pc' := 102) (lv' := [(4, .inl (x5)), (3, .inl (x3)), (1, .inr (.inl (some 0))), (2, .inl (v2))]) (st' := [.inl (v2)]) (M' := M6) rfl trivial ?_
  obtain ⟨b0, ht, hf⟩ := h
  refine am_Wbr (P := [am_rg v2]) (c := v2 = 0) (t := 148) (f := 105) (st' := []) rfl rfl ⟨b0, trivial⟩ rfl (fun q => ?_) (fun q => ?_)
  · have h := ht q
    refine am_Wrun 2 (ps := []) (pc' := 150) (lv' := [(2, .inl (0)), (4, .inl (x5)), (3, .inl (x3)), (1, .inr (.inl (some 0)))]) (st' := []) (M' := M6) rfl trivial ?_
    refine am_W_sub [3, 0, 2, 1] rfl ?_
    obtain ⟨n150, h⟩ := h
    exact tw_L_law_150 hX n150 b 0 x3 x5 M6 h
  · have h := hf q
    refine am_Wrun 3 (ps := [-128 ≤ (7 : Int) ∧ (7 : Int) ≤ 127]) (pc' := 109) (lv' := [(4, .inl (x5)), (3, .inl (x3)), (1, .inr (.inl (some 0))), (2, .inl (v2))]) (st' := [.inl (7), .inl (0), .inr (.inl (some 0))]) (M' := M6) rfl ⟨⟨by decide, by decide⟩, trivial⟩ ?_
    obtain ⟨hbc, h⟩ := h
    refine am_WcallV (y := 42) (n := 3) (a := 0) (f := 112) (as := [.inl (0), .inl (7)]) (st' := []) rfl rfl rfl rfl rfl rfl rfl rfl rfl rfl hbc rfl (am_CC_le (Nat.le_of_ble_eq_true rfl) (tm_X5_set h)) (fun r M18 q => ?_) (fun E M q => hX _ _ q)
    obtain ⟨x17, rfl, h⟩ := q
    obtain ⟨b0, ht, hf⟩ := h
    refine am_Wbr (P := [am_rg x17]) (c := x17 < 0) (t := 148) (f := 115) (st' := []) rfl rfl ⟨b0, trivial⟩ rfl (fun q => ?_) (fun q => ?_)
    · have h := ht q
      refine am_Wrun 2 (ps := []) (pc' := 150) (lv' := [(2, .inl (0)), (4, .inl (x5)), (3, .inl (x3)), (1, .inr (.inl (some 0)))]) (st' := []) (M' := M18) rfl trivial ?_
      refine am_W_sub [3, 0, 2, 1] rfl ?_
      obtain ⟨n150, h⟩ := h
      exact tw_L_law_150 hX n150 b 0 x3 x5 M18 h
    · have h := hf q
      refine am_Wrun 3 (ps := [-128 ≤ (8 : Int) ∧ (8 : Int) ≤ 127]) (pc' := 119) (lv' := [(4, .inl (x5)), (3, .inl (x3)), (1, .inr (.inl (some 0))), (2, .inl (v2))]) (st' := [.inl (8), .inl (0), .inr (.inl (some 0))]) (M' := M18) rfl ⟨⟨by decide, by decide⟩, trivial⟩ ?_
      obtain ⟨hbc, h⟩ := h
      refine am_WcallV (y := 42) (n := 3) (a := 0) (f := 122) (as := [.inl (0), .inl (8)]) (st' := []) rfl rfl rfl rfl rfl rfl rfl rfl rfl rfl hbc rfl (am_CC_le (Nat.le_of_ble_eq_true rfl) (tm_X5_set h)) (fun r M20 q => ?_) (fun E M q => hX _ _ q)
      obtain ⟨x19, rfl, h⟩ := q
      refine am_Wrun 1 (ps := [-128 ≤ (7 : Int) ∧ (7 : Int) ≤ 127]) (pc' := 124) (lv' := [(4, .inl (x5)), (3, .inl (x3)), (1, .inr (.inl (some 0))), (2, .inl (v2))]) (st' := [.inl (7), .inl (x19)]) (M' := M20) rfl ⟨⟨by decide, by decide⟩, trivial⟩ ?_
      obtain ⟨b0, ht, hf⟩ := h
      refine am_Wbr (P := [am_rg x19, am_rg 7]) (c := ¬ x19 = 7) (t := 148) (f := 127) (st' := []) rfl rfl ⟨b0, (am_rgd rfl), trivial⟩ rfl (fun q => ?_) (fun q => ?_)
      · have h := ht q
        refine am_Wrun 2 (ps := []) (pc' := 150) (lv' := [(2, .inl (0)), (4, .inl (x5)), (3, .inl (x3)), (1, .inr (.inl (some 0)))]) (st' := []) (M' := M20) rfl trivial ?_
        refine am_W_sub [3, 0, 2, 1] rfl ?_
        obtain ⟨n150, h⟩ := h
        exact tw_L_law_150 hX n150 b 0 x3 x5 M20 h
      · have h := hf q
        refine am_Wrun 1 (ps := []) (pc' := 128) (lv' := [(4, .inl (x5)), (3, .inl (x3)), (1, .inr (.inl (some 0))), (2, .inl (v2))]) (st' := [.inr (.inl (some 0))]) (M' := M20) rfl trivial ?_
        obtain ⟨hbc, h⟩ := h
        refine am_WcallV (y := 45) (n := 1) (a := 0) (f := 131) (as := []) (st' := []) rfl rfl rfl rfl rfl rfl rfl rfl rfl rfl hbc rfl (am_CC_le (Nat.le_of_ble_eq_true rfl) (tm_X5_undo h)) (fun r M22 q => ?_) (fun E M q => hX _ _ q)
        obtain ⟨x21, rfl, h⟩ := q
        obtain ⟨b0, ht, hf⟩ := h
        refine am_Wbr (P := [am_rg x21]) (c := x21 < 0) (t := 148) (f := 134) (st' := []) rfl rfl ⟨b0, trivial⟩ rfl (fun q => ?_) (fun q => ?_)
        · have h := ht q
          refine am_Wrun 2 (ps := []) (pc' := 150) (lv' := [(2, .inl (0)), (4, .inl (x5)), (3, .inl (x3)), (1, .inr (.inl (some 0)))]) (st' := []) (M' := M22) rfl trivial ?_
          refine am_W_sub [3, 0, 2, 1] rfl ?_
          obtain ⟨n150, h⟩ := h
          exact tw_L_law_150 hX n150 b 0 x3 x5 M22 h
        · have h := hf q
          refine am_Wrun 2 (ps := []) (pc' := 136) (lv' := [(4, .inl (x5)), (3, .inl (x3)), (1, .inr (.inl (some 0))), (2, .inl (v2))]) (st' := [.inl (0), .inr (.inl (some 0))]) (M' := M22) rfl trivial ?_
          obtain ⟨hbc, h⟩ := h
          refine am_WcallV (y := 61) (n := 2) (a := 0) (f := 139) (as := [.inl (0)]) (st' := []) rfl rfl rfl rfl rfl rfl rfl rfl rfl rfl hbc rfl (am_CC_le (Nat.le_of_ble_eq_true rfl) (tm_X5_setting h)) (fun r M24 q => ?_) (fun E M q => hX _ _ q)
          obtain ⟨x23, rfl, h⟩ := q
          refine am_Wrun 1 (ps := [-128 ≤ (7 : Int) ∧ (7 : Int) ≤ 127]) (pc' := 141) (lv' := [(4, .inl (x5)), (3, .inl (x3)), (1, .inr (.inl (some 0))), (2, .inl (v2))]) (st' := [.inl (7), .inl (x23)]) (M' := M24) rfl ⟨⟨by decide, by decide⟩, trivial⟩ ?_
          obtain ⟨b0, ht, hf⟩ := h
          refine am_Wbr (P := [am_rg x23, am_rg 7]) (c := ¬ x23 = 7) (t := 148) (f := 144) (st' := []) rfl rfl ⟨b0, (am_rgd rfl), trivial⟩ rfl (fun q => ?_) (fun q => ?_)
          · have h := ht q
            refine am_Wrun 2 (ps := []) (pc' := 150) (lv' := [(2, .inl (0)), (4, .inl (x5)), (3, .inl (x3)), (1, .inr (.inl (some 0)))]) (st' := []) (M' := M24) rfl trivial ?_
            refine am_W_sub [3, 0, 2, 1] rfl ?_
            obtain ⟨n150, h⟩ := h
            exact tw_L_law_150 hX n150 b 0 x3 x5 M24 h
          · have h := hf q
            refine am_Wrun 3 (ps := []) (pc' := 150) (lv' := [(2, .inl (1)), (4, .inl (x5)), (3, .inl (x3)), (1, .inr (.inl (some 0)))]) (st' := []) (M' := M24) rfl trivial ?_
            refine am_W_sub [3, 0, 2, 1] rfl ?_
            obtain ⟨n150, h⟩ := h
            exact tw_L_law_150 hX n150 b 1 x3 x5 M24 h
set_option maxRecDepth 20000 in
theorem tw_L_law_46 {Q : Int → am_M → Prop} {X : am_X} {QX : am_X} {scr : Int × (Int → Int)} {cap : Nat} (hX : ∀ E M, X E M → QX E M) : ∀ (n : Nat) (b : Nat) (v2 : Int) (v3 : Int) (M : am_M), wl_L_law_46 Q X scr cap n b v2 v3 M → am_W (am_CC 9) dt_L_law 8 cap scr (am_QI Q) QX (b, 46, [(0, .inr (.inl (some 999))), (1, .inr (.inl (some 0))), (2, .inl (v2)), (3, .inl (v3))], [], M)
  | 0, _, _, _, _, h => h.elim
  | n + 1, b, v2, v3, M, h => by
    refine am_Wrun 2 (ps := [-128 ≤ (44 : Int) ∧ (44 : Int) ≤ 127]) (pc' := 49) (lv' := [(0, .inr (.inl (some 999))), (1, .inr (.inl (some 0))), (2, .inl (v2)), (3, .inl (v3))]) (st' := [.inl (44), .inl (v3)]) (M' := M) rfl ⟨⟨by decide, by decide⟩, trivial⟩ ?_
    obtain ⟨b0, ht, hf⟩ := h
    refine am_Wbr (P := [am_rg v3, am_rg 44]) (c := 44 ≤ v3) (t := 87) (f := 52) (st' := []) rfl rfl ⟨b0, (am_rgd rfl), trivial⟩ rfl (fun q => ?_) (fun q => ?_)
    · have h := ht q
      refine am_W_sub [1, 2] rfl ?_
      exact tj_L_law_87 hX b v2 M h
    · have h := hf q
      refine am_Wrun 1 (ps := []) (pc' := 53) (lv' := [(0, .inr (.inl (some 999))), (1, .inr (.inl (some 0))), (2, .inl (v2)), (3, .inl (v3))]) (st' := [.inl (v2)]) (M' := M) rfl trivial ?_
      obtain ⟨b0, ht, hf⟩ := h
      refine am_Wbr (P := [am_rg v2]) (c := v2 = 0) (t := 87) (f := 56) (st' := []) rfl rfl ⟨b0, trivial⟩ rfl (fun q => ?_) (fun q => ?_)
      · have h := ht q
        refine am_W_sub [1, 2] rfl ?_
        exact tj_L_law_87 hX b v2 M h
      · have h := hf q
        obtain ⟨c0_0, c0_1, h⟩ := h
        refine am_Wrun 4 (ps := [am_rg v3 ∧ 0 ≤ v3 ∧ am_cs [.inr (.inl (some 0))] ≤ 8]) (pc' := 62) (lv' := [(0, .inr (.inl (some 999))), (1, .inr (.inl (some 0))), (2, .inl (v2)), (3, .inl (v3))]) (st' := [.inl (am_ce scr.1 scr.2 v3), .inr (.inl (some 0))]) (M' := M) rfl ⟨⟨c0_0, c0_1, (by decide)⟩, trivial⟩ ?_
        obtain ⟨hbc, h⟩ := h
        refine am_WcallS (y := 79) (n := 2) (f := 65) (co := 0) (as := [.inr (.inl (some 0)), .inl (am_ce scr.1 scr.2 v3)]) (st' := []) rfl rfl rfl rfl rfl rfl rfl rfl rfl hbc rfl (am_CC_le (Nat.le_of_ble_eq_true rfl) (tm_L_acts h)) (fun r M26 q => ?_) (fun E M q => hX _ _ q)
        obtain ⟨x25, rfl, h⟩ := q
        obtain ⟨b0, ht, hf⟩ := h
        refine am_Wbr (P := [am_rg x25]) (c := x25 = 0) (t := 79) (f := 68) (st' := []) rfl rfl ⟨b0, trivial⟩ rfl (fun q => ?_) (fun q => ?_)
        · have h := ht q
          refine am_Wrun 4 (ps := []) (pc' := 46) (lv' := [(3, .inl (v3 + 1)), (2, .inl (0)), (0, .inr (.inl (some 999))), (1, .inr (.inl (some 0)))]) (st' := []) (M' := M26) rfl trivial ?_
          refine am_W_sub [2, 3, 1, 0] rfl ?_
          exact tw_L_law_46 hX n b 0 (v3 + 1) M26 h
        · have h := hf q
          refine am_Wrun 1 (ps := []) (pc' := 69) (lv' := [(0, .inr (.inl (some 999))), (1, .inr (.inl (some 0))), (2, .inl (v2)), (3, .inl (v3))]) (st' := [.inr (.inl (some 0))]) (M' := M26) rfl trivial ?_
          obtain ⟨hbc, h⟩ := h
          refine am_WcallS (y := 64) (n := 1) (f := 72) (co := 0) (as := [.inr (.inl (some 0))]) (st' := []) rfl rfl rfl rfl rfl rfl rfl rfl rfl hbc rfl (am_CC_le (Nat.le_of_ble_eq_true rfl) (tm_L_sound h)) (fun r M28 q => ?_) (fun E M q => hX _ _ q)
          obtain ⟨x27, rfl, h⟩ := q
          obtain ⟨b0, ht, hf⟩ := h
          refine am_Wbr (P := [am_rg x27]) (c := x27 = 0) (t := 79) (f := 75) (st' := []) rfl rfl ⟨b0, trivial⟩ rfl (fun q => ?_) (fun q => ?_)
          · have h := ht q
            refine am_Wrun 4 (ps := []) (pc' := 46) (lv' := [(3, .inl (v3 + 1)), (2, .inl (0)), (0, .inr (.inl (some 999))), (1, .inr (.inl (some 0)))]) (st' := []) (M' := M28) rfl trivial ?_
            refine am_W_sub [2, 3, 1, 0] rfl ?_
            exact tw_L_law_46 hX n b 0 (v3 + 1) M28 h
          · have h := hf q
            refine am_Wrun 5 (ps := []) (pc' := 46) (lv' := [(3, .inl (v3 + 1)), (2, .inl (1)), (0, .inr (.inl (some 999))), (1, .inr (.inl (some 0)))]) (st' := []) (M' := M28) rfl trivial ?_
            refine am_W_sub [2, 3, 1, 0] rfl ?_
            exact tw_L_law_46 hX n b 1 (v3 + 1) M28 h
set_option maxRecDepth 20000 in
theorem tj_L_law_8 {Q : Int → am_M → Prop} {X : am_X} {QX : am_X} {scr : Int × (Int → Int)} {cap : Nat} (hX : ∀ E M, X E M → QX E M) (b : Nat) (M : am_M) (h : wj_L_law_8 Q X scr cap b M) : am_W (am_CC 9) dt_L_law 8 cap scr (am_QI Q) QX (b, 8, [(0, .inr (.inl (some 999))), (1, .inr (.inl (some 0)))], [], M) := by
  refine am_Wrun 1 (ps := []) (pc' := 9) (lv' := [(0, .inr (.inl (some 999))), (1, .inr (.inl (some 0)))]) (st' := [.inr (.inl (some 0))]) (M' := M) rfl trivial ?_
  obtain ⟨hbc, h⟩ := h
  refine am_WcallS (y := 64) (n := 1) (f := 12) (co := 0) (as := [.inr (.inl (some 0))]) (st' := []) rfl rfl rfl rfl rfl rfl rfl rfl rfl hbc rfl (am_CC_le (Nat.le_of_ble_eq_true rfl) (tm_L_sound h)) (fun r M2 q => ?_) (fun E M q => hX _ _ q)
  obtain ⟨x1, rfl, h⟩ := q
  obtain ⟨b0, ht, hf⟩ := h
  refine am_Wbr (P := [am_rg x1]) (c := x1 = 0) (t := 42) (f := 15) (st' := []) rfl rfl ⟨b0, trivial⟩ rfl (fun q => ?_) (fun q => ?_)
  · have h := ht q
    refine am_Wrun 4 (ps := []) (pc' := 46) (lv' := [(3, .inl (0)), (2, .inl (0)), (0, .inr (.inl (some 999))), (1, .inr (.inl (some 0)))]) (st' := []) (M' := M2) rfl trivial ?_
    refine am_W_sub [2, 3, 1, 0] rfl ?_
    obtain ⟨n46, h⟩ := h
    exact tw_L_law_46 hX n46 b 0 0 M2 h
  · have h := hf q
    refine am_Wrun 1 (ps := []) (pc' := 16) (lv' := [(0, .inr (.inl (some 999))), (1, .inr (.inl (some 0)))]) (st' := [.inr (.inl (some 0))]) (M' := M2) rfl trivial ?_
    obtain ⟨hbc, h⟩ := h
    refine am_WcallV (y := 0) (n := 1) (a := 0) (f := 19) (as := []) (st' := []) rfl rfl rfl rfl rfl rfl rfl rfl rfl rfl hbc rfl (am_CC_le (Nat.le_of_ble_eq_true rfl) (tm_X5_mend h)) (fun r M30 q => ?_) (fun _ _ q => q.elim)
    obtain ⟨x29, rfl, h⟩ := q
    obtain ⟨b0, ht, hf⟩ := h
    refine am_Wbr (P := [am_rg x29]) (c := ¬ x29 = 0) (t := 42) (f := 22) (st' := []) rfl rfl ⟨b0, trivial⟩ rfl (fun q => ?_) (fun q => ?_)
    · have h := ht q
      refine am_Wrun 4 (ps := []) (pc' := 46) (lv' := [(3, .inl (0)), (2, .inl (0)), (0, .inr (.inl (some 999))), (1, .inr (.inl (some 0)))]) (st' := []) (M' := M30) rfl trivial ?_
      refine am_W_sub [2, 3, 1, 0] rfl ?_
      obtain ⟨n46, h⟩ := h
      exact tw_L_law_46 hX n46 b 0 0 M30 h
    · have h := hf q
      refine am_Wrun 2 (ps := []) (pc' := 24) (lv' := [(0, .inr (.inl (some 999))), (1, .inr (.inl (some 0)))]) (st' := [.inl (2), .inr (.inl (some 0))]) (M' := M30) rfl trivial ?_
      obtain ⟨hbc, h⟩ := h
      refine am_WcallV (y := 17) (n := 2) (a := 0) (f := 27) (as := [.inl (2)]) (st' := []) rfl rfl rfl rfl rfl rfl rfl rfl rfl rfl hbc rfl (am_CC_le (Nat.le_of_ble_eq_true rfl) (tm_X5_thin h)) (fun r M32 q => ?_) (fun E M q => hX _ _ q)
      obtain ⟨x31, rfl, h⟩ := q
      obtain ⟨b0, ht, hf⟩ := h
      refine am_Wbr (P := [am_rg x31]) (c := ¬ x31 = 0) (t := 42) (f := 30) (st' := []) rfl rfl ⟨b0, trivial⟩ rfl (fun q => ?_) (fun q => ?_)
      · have h := ht q
        refine am_Wrun 4 (ps := []) (pc' := 46) (lv' := [(3, .inl (0)), (2, .inl (0)), (0, .inr (.inl (some 999))), (1, .inr (.inl (some 0)))]) (st' := []) (M' := M32) rfl trivial ?_
        refine am_W_sub [2, 3, 1, 0] rfl ?_
        obtain ⟨n46, h⟩ := h
        exact tw_L_law_46 hX n46 b 0 0 M32 h
      · have h := hf q
        refine am_Wrun 2 (ps := []) (pc' := 32) (lv' := [(0, .inr (.inl (some 999))), (1, .inr (.inl (some 0)))]) (st' := [.inl (0), .inr (.inl (some 0))]) (M' := M32) rfl trivial ?_
        obtain ⟨hbc, h⟩ := h
        refine am_WcallV (y := 62) (n := 2) (a := 0) (f := 35) (as := [.inl (0)]) (st' := []) rfl rfl rfl rfl rfl rfl rfl rfl rfl rfl hbc rfl (am_CC_le (Nat.le_of_ble_eq_true rfl) (tm_X5_leastOath h)) (fun r M34 q => ?_) (fun E M q => hX _ _ q)
        obtain ⟨x33, rfl, h⟩ := q
        obtain ⟨b0, ht, hf⟩ := h
        refine am_Wbr (P := [am_rg x33]) (c := ¬ x33 = 0) (t := 42) (f := 38) (st' := []) rfl rfl ⟨b0, trivial⟩ rfl (fun q => ?_) (fun q => ?_)
        · have h := ht q
          refine am_Wrun 4 (ps := []) (pc' := 46) (lv' := [(3, .inl (0)), (2, .inl (0)), (0, .inr (.inl (some 999))), (1, .inr (.inl (some 0)))]) (st' := []) (M' := M34) rfl trivial ?_
          refine am_W_sub [2, 3, 1, 0] rfl ?_
          obtain ⟨n46, h⟩ := h
          exact tw_L_law_46 hX n46 b 0 0 M34 h
        · have h := hf q
          refine am_Wrun 5 (ps := []) (pc' := 46) (lv' := [(3, .inl (0)), (2, .inl (1)), (0, .inr (.inl (some 999))), (1, .inr (.inl (some 0)))]) (st' := []) (M' := M34) rfl trivial ?_
          refine am_W_sub [2, 3, 1, 0] rfl ?_
          obtain ⟨n46, h⟩ := h
          exact tw_L_law_46 hX n46 b 1 0 M34 h
