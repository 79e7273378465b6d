abbrev dt_L_size : am_D := (tk_L_size, 9, 1, some .int, tb_hn 75)
def wp_L_size (a0 : Int) (M : am_M) (Q : Int → am_M → Prop) : Prop := (am_rg a0) ∧ (0 ≤ a0 → Q a0 M) ∧ (¬ 0 ≤ a0 → Q (-a0) M)
set_option maxRecDepth 20000 in
theorem tm_L_size {a0 : Int} {M : am_M} {Q : Int → am_M → Prop} (h : wp_L_size a0 M Q) : am_CC 1 75 [.inl (a0)] M (am_QI Q) (fun _ _ => False) := by
  refine ⟨Nat.le_of_ble_eq_true rfl, ?_⟩
  show am_W (am_CC 0) dt_L_size 0 0 none (am_QI Q) (am_qx 75 (fun _ _ => False)) (0, 0, [(0, .inl (a0))], [], M)
  refine am_Wrun 1 (ps := []) (pc' := 1) (lv' := [(0, .inl (a0))]) (st' := [.inl (a0)]) (M' := M) rfl trivial ?_
  obtain ⟨b0, ht, hf⟩ := h
  refine am_Wbr (P := [am_rg a0]) (c := 0 ≤ a0) (t := 9) (f := 4) (st' := []) rfl rfl ⟨b0, trivial⟩ rfl (fun q => ?_) (fun q => ?_)
  · have h := ht q
    refine am_Wrun 1 (ps := []) (pc' := 10) (lv' := [(0, .inl (a0))]) (st' := [.inl (a0)]) (M' := M) rfl trivial ?_
    exact am_Wreti rfl rfl h
  · have h := hf q
    refine am_Wrun 3 (ps := []) (pc' := 10) (lv' := [(0, .inl (a0))]) (st' := [.inl (-a0)]) (M' := M) rfl trivial ?_
    exact am_Wreti rfl rfl h
abbrev dt_L_point : am_D := (tk_L_point, 9, 11, some .boolean, tb_hn 71)
def wj_L_point_471 (Q : Int → am_M → Prop) (X : am_X) (v1 : Int) (s0 : Int) (s1 : Int) (M : am_M) : Prop := (am_rg s1) ∧ (am_rg s0) ∧ (¬ s1 = s0 → Q 0 M) ∧ (¬ (¬ s1 = s0) → wp_X5_point v1 7 M (fun x29 M30 => (am_rg x29) ∧ (¬ x29 = 1 → Q 0 M30) ∧ (¬ (¬ x29 = 1) → Q 1 M30)) X)
def wj_L_point_336 (Q : Int → am_M → Prop) (X : am_X) (v1 : Int) (v5 : Int) (v6 : Int) (v7 : Int) (s0 : Int) (M : am_M) : Prop := (am_rg s0) ∧ (¬ s0 = 0 → wp_X5_point v1 0 M (fun x13 M14 => wp_X5_reading x13 0 M14 (fun x15 M16 => wp_X5_point v1 0 M16 (fun x17 M18 => wp_X5_reading x17 1 M18 (fun x19 M20 => (am_rg v5) ∧ (v5 = 0 → Q 0 M20) ∧ (¬ v5 = 0 → (am_rg v7) ∧ (am_rg x19) ∧ (¬ v7 = x19 → Q 0 M20) ∧ (¬ (¬ v7 = x19) → wp_X5_point v1 1 M20 (fun x21 M22 => wp_L_size ((x21 * x19) - x15) M22 (fun x23 M24 => (am_rg v6) ∧ (am_rg x23) ∧ (¬ v6 = x23 → Q 0 M24) ∧ (¬ (¬ v6 = x23) → wp_X5_point v1 3 M24 (fun x25 M26 => wp_X5_setting 0 M26 (fun x27 M28 => (am_rg v6) ∧ (am_rg (x27 * v7)) ∧ (v6 ≤ (x27 * v7) → wj_L_point_471 Q X v1 0 x25 M28) ∧ (¬ v6 ≤ (x27 * v7) → wj_L_point_471 Q X v1 1 x25 M28)) X) X))) X))) X) X) X) X) ∧ (¬ (¬ s0 = 0) → (am_rg v5) ∧ (v5 = 0 → Q 0 M) ∧ (¬ v5 = 0 → (am_rg v6) ∧ (¬ v6 = (-1000000) → Q 0 M) ∧ (¬ (¬ v6 = (-1000000)) → (am_rg v7) ∧ (¬ v7 = (-1000000) → Q 0 M) ∧ (¬ (¬ v7 = (-1000000)) → wp_X5_point v1 3 M (fun x31 M32 => (am_rg x31) ∧ (¬ x31 = 1 → Q 0 M32) ∧ (¬ (¬ x31 = 1) → wp_X5_point v1 7 M32 (fun x33 M34 => (am_rg x33) ∧ (¬ x33 = 1 → Q 0 M34) ∧ (¬ (¬ x33 = 1) → Q 1 M34)) X)) X))))
def wj_L_point_335 (Q : Int → am_M → Prop) (X : am_X) (v1 : Int) (v5 : Int) (v6 : Int) (v7 : Int) (M : am_M) : Prop := wj_L_point_336 Q X v1 v5 v6 v7 0 M
def wj_L_point_236 (Q : Int → am_M → Prop) (X : am_X) (v1 : Int) (v2 : Int) (v3 : Int) (v4 : Int) (v5 : Int) (M : am_M) : Prop := wp_X5_error v1 0 M (fun x9 M10 => wp_X5_error v1 1 M10 (fun x11 M12 => (am_rg v2) ∧ (v2 = 0 → (am_rg v3) ∧ (v3 < 0 → wj_L_point_335 Q X v1 v5 x9 x11 M12) ∧ (¬ v3 < 0 → (am_rg v4) ∧ (v4 < 0 → wj_L_point_335 Q X v1 v5 x9 x11 M12) ∧ (¬ v4 < 0 → wj_L_point_336 Q X v1 v5 x9 x11 1 M12))) ∧ (¬ v2 = 0 → (am_rg v5) ∧ (v5 = 0 → Q 0 M12) ∧ (¬ v5 = 0 → (am_rg x9) ∧ (¬ x9 = 0 → Q 0 M12) ∧ (¬ (¬ x9 = 0) → (am_rg x11) ∧ (¬ x11 = 1 → Q 0 M12) ∧ (¬ (¬ x11 = 1) → wp_X5_point v1 3 M12 (fun x35 M36 => (am_rg x35) ∧ (¬ x35 = 0 → Q 0 M36) ∧ (¬ (¬ x35 = 0) → wp_X5_point v1 0 M36 (fun x37 M38 => wp_X5_reading x37 0 M38 (fun x39 M40 => wp_X5_point v1 1 M40 (fun x41 M42 => (am_rg x39) ∧ (am_rg x41) ∧ (¬ x39 = x41 → Q 0 M42) ∧ (¬ (¬ x39 = x41) → wp_X5_point v1 0 M42 (fun x43 M44 => wp_X5_reading x43 1 M44 (fun x45 M46 => (am_rg x45) ∧ (¬ x45 = 1 → Q 0 M46) ∧ (¬ (¬ x45 = 1) → Q 1 M46)) X) X)) X) X) X)) X))))) X) X
def wj_L_point_206 (Q : Int → am_M → Prop) (X : am_X) (k150 : Int → Int → Int → Int → Int → Int → am_M → Prop) (v1 : Int) (v2 : Int) (v3 : Int) (v4 : Int) (v6 : Int) (s0 : Int) (M : am_M) : Prop := (am_rg s0) ∧ (s0 = 0 → k150 v1 v2 v3 v4 1 (v6 + 1) M) ∧ (¬ s0 = 0 → wp_X5_point v6 2 M (fun x47 M48 => (am_rg x47) ∧ (¬ x47 = 0 → k150 v1 v2 v3 v4 0 (v6 + 1) M48) ∧ (¬ (¬ x47 = 0) → k150 v1 v2 v3 v4 1 (v6 + 1) M48)) X)
def wj_L_point_205 (Q : Int → am_M → Prop) (X : am_X) (k150 : Int → Int → Int → Int → Int → Int → am_M → Prop) (v1 : Int) (v2 : Int) (v3 : Int) (v4 : Int) (v6 : Int) (M : am_M) : Prop := wj_L_point_206 Q X k150 v1 v2 v3 v4 v6 0 M
def wj_L_point_198 (Q : Int → am_M → Prop) (X : am_X) (k150 : Int → Int → Int → Int → Int → Int → am_M → Prop) (v1 : Int) (v2 : Int) (v3 : Int) (v4 : Int) (v6 : Int) (s0 : Int) (s1 : Int) (M : am_M) : Prop := (am_rg s1) ∧ (am_rg s0) ∧ (s0 ≤ s1 → wj_L_point_205 Q X k150 v1 v2 v3 v4 v6 M) ∧ (¬ s0 ≤ s1 → wj_L_point_206 Q X k150 v1 v2 v3 v4 v6 1 M)
def wj_L_point_182 (Q : Int → am_M → Prop) (X : am_X) (k150 : Int → Int → Int → Int → Int → Int → am_M → Prop) (v1 : Int) (v2 : Int) (v3 : Int) (v4 : Int) (v6 : Int) (s0 : Int) (s1 : Int) (M : am_M) : Prop := (am_rg s1) ∧ (am_rg s0) ∧ (s1 ≤ s0 → wj_L_point_205 Q X k150 v1 v2 v3 v4 v6 M) ∧ (¬ s1 ≤ s0 → (am_rg v4) ∧ (0 ≤ v4 → wj_L_point_198 Q X k150 v1 v2 v3 v4 v6 v4 v6 M) ∧ (¬ 0 ≤ v4 → wj_L_point_198 Q X k150 v1 v2 v3 v4 v6 v1 v6 M))
def wl_L_point_150 (Q : Int → am_M → Prop) (X : am_X) : Nat → Int → Int → Int → Int → Int → Int → am_M → Prop
  | 0, _, _, _, _, _, _, _ => False
  | n + 1, v1, v2, v3, v4, v5, v6, M => wp_X5_count 0 M (fun x7 M8 => (am_rg v6) ∧ (am_rg x7) ∧ (x7 ≤ v6 → wj_L_point_236 Q X v1 v2 v3 v4 v5 M8) ∧ (¬ x7 ≤ v6 → (am_rg v5) ∧ (v5 = 0 → wj_L_point_236 Q X v1 v2 v3 v4 v5 M8) ∧ (¬ v5 = 0 → (am_rg v6) ∧ (am_rg v1) ∧ (v6 = v1 → wj_L_point_205 Q X (wl_L_point_150 Q X n) v1 v2 v3 v4 v6 M8) ∧ (¬ v6 = v1 → (am_rg v3) ∧ (0 ≤ v3 → wj_L_point_182 Q X (wl_L_point_150 Q X n) v1 v2 v3 v4 v6 v3 v6 M8) ∧ (¬ 0 ≤ v3 → wj_L_point_182 Q X (wl_L_point_150 Q X n) v1 v2 v3 v4 v6 v1 v6 M8))))) X
def wj_L_point_85 (Q : Int → am_M → Prop) (X : am_X) (v1 : Int) (v2 : Int) (v3 : Int) (v4 : Int) (s0 : Int) (M : am_M) : Prop := (am_rg s0) ∧ (s0 = 0 → ∃ e150, wl_L_point_150 Q X e150 v1 v2 v3 v4 0 0 M) ∧ (¬ s0 = 0 → (am_rg v4) ∧ (0 ≤ v4 → (am_rg v4) ∧ (am_rg v1) ∧ (v4 ≤ v1 → ∃ e150, wl_L_point_150 Q X e150 v1 v2 v3 v4 0 0 M) ∧ (¬ v4 ≤ v1 → wp_X5_point v4 2 M (fun x49 M50 => (am_rg x49) ∧ (¬ x49 = 1 → ∃ e150, wl_L_point_150 Q X e150 v1 v2 v3 v4 0 0 M50) ∧ (¬ (¬ x49 = 1) → wp_X5_point v4 4 M50 (fun x51 M52 => wp_X5_point v1 4 M52 (fun x53 M54 => (am_rg x51) ∧ (am_rg x53) ∧ (¬ x51 = x53 → ∃ e150, wl_L_point_150 Q X e150 v1 v2 v3 v4 0 0 M54) ∧ (¬ (¬ x51 = x53) → ∃ e150, wl_L_point_150 Q X e150 v1 v2 v3 v4 1 0 M54)) X) X)) X)) ∧ (¬ 0 ≤ v4 → (am_rg v4) ∧ (¬ v4 = (-1000000) → ∃ e150, wl_L_point_150 Q X e150 v1 v2 v3 v4 0 0 M) ∧ (¬ (¬ v4 = (-1000000)) → ∃ e150, wl_L_point_150 Q X e150 v1 v2 v3 v4 1 0 M)))
def wj_L_point_84 (Q : Int → am_M → Prop) (X : am_X) (v1 : Int) (v2 : Int) (v3 : Int) (v4 : Int) (M : am_M) : Prop := wj_L_point_85 Q X v1 v2 v3 v4 0 M
def wj_L_point_15 (Q : Int → am_M → Prop) (X : am_X) (v1 : Int) (s0 : Int) (M : am_M) : Prop := wp_X5_point v1 5 M (fun x3 M4 => wp_X5_point v1 6 M4 (fun x5 M6 => (am_rg x3) ∧ (0 ≤ x3 → (am_rg x3) ∧ (am_rg v1) ∧ (v1 ≤ x3 → wj_L_point_84 Q X v1 s0 x3 x5 M6) ∧ (¬ v1 ≤ x3 → wp_X5_point x3 2 M6 (fun x55 M56 => (am_rg x55) ∧ (¬ x55 = 1 → wj_L_point_84 Q X v1 s0 x3 x5 M56) ∧ (¬ (¬ x55 = 1) → wp_X5_point x3 4 M56 (fun x57 M58 => wp_X5_point v1 4 M58 (fun x59 M60 => (am_rg x57) ∧ (am_rg x59) ∧ (¬ x57 = x59 → wj_L_point_84 Q X v1 s0 x3 x5 M60) ∧ (¬ (¬ x57 = x59) → wj_L_point_85 Q X v1 s0 x3 x5 1 M60)) X) X)) X)) ∧ (¬ 0 ≤ x3 → (am_rg x3) ∧ (¬ x3 = (-1000000) → wj_L_point_85 Q X v1 s0 x3 x5 0 M6) ∧ (¬ (¬ x3 = (-1000000)) → wj_L_point_85 Q X v1 s0 x3 x5 1 M6))) X) X
def wp_L_point (a1 : Int) (M : am_M) (Q : Int → am_M → Prop) (X : am_X) : Prop := wp_X5_point a1 2 M (fun x1 M2 => (am_rg x1) ∧ (¬ x1 = 1 → wj_L_point_15 Q X a1 0 M2) ∧ (¬ (¬ x1 = 1) → wj_L_point_15 Q X a1 1 M2)) X
set_option maxRecDepth 20000 in
theorem tj_L_point_471 {Q : Int → am_M → Prop} {X : am_X} {QX : am_X} (hX : ∀ E M, X E M → QX E M) (v1 : Int) (s0 : Int) (s1 : Int) (M : am_M) (h : wj_L_point_471 Q X v1 s0 s1 M) : am_W (am_CC 7) dt_L_point 7 0 none (am_QI Q) QX (0, 471, [(0, .inr (.inl (some 0))), (1, .inl (v1))], [.inl (s0), .inl (s1)], M) := by
  obtain ⟨b0, b1, ht, hf⟩ := h
  refine am_Wbr (P := [am_rg s1, am_rg s0]) (c := ¬ s1 = s0) (t := 489) (f := 474) (st' := []) rfl rfl ⟨b0, b1, trivial⟩ rfl (fun q => ?_) (fun q => ?_)
  · have h := ht q
    refine am_Wrun 1 (ps := []) (pc' := 490) (lv' := [(0, .inr (.inl (some 0))), (1, .inl (v1))]) (st' := [.inl (0)]) (M' := M) rfl trivial ?_
    exact am_Wretz rfl rfl (Or.inl rfl) h
  · have h := hf q
    refine am_Wrun 3 (ps := [-128 ≤ (7 : Int) ∧ (7 : Int) ≤ 127]) (pc' := 478) (lv' := [(0, .inr (.inl (some 0))), (1, .inl (v1))]) (st' := [.inl (7), .inl (v1), .inr (.inl (some 0))]) (M' := M) rfl ⟨⟨by decide, by decide⟩, trivial⟩ ?_
    refine am_WcallV (y := 66) (n := 3) (a := 0) (f := 481) (as := [.inl (v1), .inl (7)]) (st' := []) rfl rfl rfl rfl rfl rfl rfl rfl rfl rfl (Nat.zero_le _) rfl (am_CC_le (Nat.le_of_ble_eq_true rfl) (tm_X5_point h)) (fun r M30 q => ?_) (fun E M q => hX _ _ q)
    obtain ⟨x29, rfl, h⟩ := q
    refine am_Wrun 1 (ps := []) (pc' := 482) (lv' := [(0, .inr (.inl (some 0))), (1, .inl (v1))]) (st' := [.inl (1), .inl (x29)]) (M' := M30) rfl trivial ?_
    obtain ⟨b0, ht, hf⟩ := h
    refine am_Wbr (P := [am_rg x29, am_rg 1]) (c := ¬ x29 = 1) (t := 489) (f := 485) (st' := []) rfl rfl ⟨b0, (am_rgd rfl), trivial⟩ rfl (fun q => ?_) (fun q => ?_)
    · have h := ht q
      refine am_Wrun 1 (ps := []) (pc' := 490) (lv' := [(0, .inr (.inl (some 0))), (1, .inl (v1))]) (st' := [.inl (0)]) (M' := M30) rfl trivial ?_
      exact am_Wretz rfl rfl (Or.inl rfl) h
    · have h := hf q
      refine am_Wrun 2 (ps := []) (pc' := 490) (lv' := [(0, .inr (.inl (some 0))), (1, .inl (v1))]) (st' := [.inl (1)]) (M' := M30) rfl trivial ?_
      exact am_Wretz rfl rfl (Or.inr rfl) h
set_option maxRecDepth 20000 in
theorem tj_L_point_336 {Q : Int → am_M → Prop} {X : am_X} {QX : am_X} (hX : ∀ E M, X E M → QX E M) (v1 : Int) (v5 : Int) (v6 : Int) (v7 : Int) (s0 : Int) (M : am_M) (h : wj_L_point_336 Q X v1 v5 v6 v7 s0 M) : am_W (am_CC 7) dt_L_point 7 0 none (am_QI Q) QX (0, 336, [(0, .inr (.inl (some 0))), (1, .inl (v1)), (5, .inl (v5)), (6, .inl (v6)), (7, .inl (v7))], [.inl (s0)], M) := by
  refine am_Wrun 2 (ps := []) (pc' := 340) (lv' := [(8, .inl (s0)), (0, .inr (.inl (some 0))), (1, .inl (v1)), (5, .inl (v5)), (6, .inl (v6)), (7, .inl (v7))]) (st' := [.inl (s0)]) (M' := M) rfl trivial ?_
  obtain ⟨b0, ht, hf⟩ := h
  refine am_Wbr (P := [am_rg s0]) (c := ¬ s0 = 0) (t := 389) (f := 343) (st' := []) rfl rfl ⟨b0, trivial⟩ rfl (fun q => ?_) (fun q => ?_)
  · have h := ht q
    refine am_Wrun 4 (ps := []) (pc' := 393) (lv' := [(8, .inl (s0)), (0, .inr (.inl (some 0))), (1, .inl (v1)), (5, .inl (v5)), (6, .inl (v6)), (7, .inl (v7))]) (st' := [.inl (0), .inl (v1), .inr (.inl (some 0)), .inr (.inl (some 0))]) (M' := M) rfl trivial ?_
    refine am_WcallV (y := 66) (n := 3) (a := 0) (f := 396) (as := [.inl (v1), .inl (0)]) (st' := [.inr (.inl (some 0))]) rfl rfl rfl rfl rfl rfl rfl rfl rfl rfl (Nat.zero_le _) rfl (am_CC_le (Nat.le_of_ble_eq_true rfl) (tm_X5_point h)) (fun r M14 q => ?_) (fun E M q => hX _ _ q)
    obtain ⟨x13, rfl, h⟩ := q
    refine am_Wrun 1 (ps := []) (pc' := 397) (lv' := [(8, .inl (s0)), (0, .inr (.inl (some 0))), (1, .inl (v1)), (5, .inl (v5)), (6, .inl (v6)), (7, .inl (v7))]) (st' := [.inl (0), .inl (x13), .inr (.inl (some 0))]) (M' := M14) rfl trivial ?_
    refine am_WcallV (y := 73) (n := 3) (a := 0) (f := 400) (as := [.inl (x13), .inl (0)]) (st' := []) rfl rfl rfl rfl rfl rfl rfl rfl rfl rfl (Nat.zero_le _) rfl (am_CC_le (Nat.le_of_ble_eq_true rfl) (tm_X5_reading h)) (fun r M16 q => ?_) (fun E M q => hX _ _ q)
    obtain ⟨x15, rfl, h⟩ := q
    refine am_Wrun 5 (ps := []) (pc' := 406) (lv' := [(9, .inl (x15)), (8, .inl (s0)), (0, .inr (.inl (some 0))), (1, .inl (v1)), (5, .inl (v5)), (6, .inl (v6)), (7, .inl (v7))]) (st' := [.inl (0), .inl (v1), .inr (.inl (some 0)), .inr (.inl (some 0))]) (M' := M16) rfl trivial ?_
    refine am_WcallV (y := 66) (n := 3) (a := 0) (f := 409) (as := [.inl (v1), .inl (0)]) (st' := [.inr (.inl (some 0))]) rfl rfl rfl rfl rfl rfl rfl rfl rfl rfl (Nat.zero_le _) rfl (am_CC_le (Nat.le_of_ble_eq_true rfl) (tm_X5_point h)) (fun r M18 q => ?_) (fun E M q => hX _ _ q)
    obtain ⟨x17, rfl, h⟩ := q
    refine am_Wrun 1 (ps := []) (pc' := 410) (lv' := [(9, .inl (x15)), (8, .inl (s0)), (0, .inr (.inl (some 0))), (1, .inl (v1)), (5, .inl (v5)), (6, .inl (v6)), (7, .inl (v7))]) (st' := [.inl (1), .inl (x17), .inr (.inl (some 0))]) (M' := M18) rfl trivial ?_
    refine am_WcallV (y := 73) (n := 3) (a := 0) (f := 413) (as := [.inl (x17), .inl (1)]) (st' := []) rfl rfl rfl rfl rfl rfl rfl rfl rfl rfl (Nat.zero_le _) rfl (am_CC_le (Nat.le_of_ble_eq_true rfl) (tm_X5_reading h)) (fun r M20 q => ?_) (fun E M q => hX _ _ q)
    obtain ⟨x19, rfl, h⟩ := q
    refine am_Wrun 2 (ps := []) (pc' := 417) (lv' := [(10, .inl (x19)), (9, .inl (x15)), (8, .inl (s0)), (0, .inr (.inl (some 0))), (1, .inl (v1)), (5, .inl (v5)), (6, .inl (v6)), (7, .inl (v7))]) (st' := [.inl (v5)]) (M' := M20) rfl trivial ?_
    obtain ⟨b0, ht, hf⟩ := h
    refine am_Wbr (P := [am_rg v5]) (c := v5 = 0) (t := 489) (f := 420) (st' := []) rfl rfl ⟨b0, trivial⟩ rfl (fun q => ?_) (fun q => ?_)
    · have h := ht q
      refine am_Wrun 1 (ps := []) (pc' := 490) (lv' := [(10, .inl (x19)), (9, .inl (x15)), (8, .inl (s0)), (0, .inr (.inl (some 0))), (1, .inl (v1)), (5, .inl (v5)), (6, .inl (v6)), (7, .inl (v7))]) (st' := [.inl (0)]) (M' := M20) rfl trivial ?_
      exact am_Wretz rfl rfl (Or.inl rfl) h
    · have h := hf q
      refine am_Wrun 2 (ps := []) (pc' := 424) (lv' := [(10, .inl (x19)), (9, .inl (x15)), (8, .inl (s0)), (0, .inr (.inl (some 0))), (1, .inl (v1)), (5, .inl (v5)), (6, .inl (v6)), (7, .inl (v7))]) (st' := [.inl (x19), .inl (v7)]) (M' := M20) rfl trivial ?_
      obtain ⟨b0, b1, ht, hf⟩ := h
      refine am_Wbr (P := [am_rg v7, am_rg x19]) (c := ¬ v7 = x19) (t := 489) (f := 427) (st' := []) rfl rfl ⟨b0, b1, trivial⟩ rfl (fun q => ?_) (fun q => ?_)
      · have h := ht q
        refine am_Wrun 1 (ps := []) (pc' := 490) (lv' := [(10, .inl (x19)), (9, .inl (x15)), (8, .inl (s0)), (0, .inr (.inl (some 0))), (1, .inl (v1)), (5, .inl (v5)), (6, .inl (v6)), (7, .inl (v7))]) (st' := [.inl (0)]) (M' := M20) rfl trivial ?_
        exact am_Wretz rfl rfl (Or.inl rfl) h
      · have h := hf q
        refine am_Wrun 4 (ps := []) (pc' := 432) (lv' := [(10, .inl (x19)), (9, .inl (x15)), (8, .inl (s0)), (0, .inr (.inl (some 0))), (1, .inl (v1)), (5, .inl (v5)), (6, .inl (v6)), (7, .inl (v7))]) (st' := [.inl (1), .inl (v1), .inr (.inl (some 0)), .inl (v6)]) (M' := M20) rfl trivial ?_
        refine am_WcallV (y := 66) (n := 3) (a := 0) (f := 435) (as := [.inl (v1), .inl (1)]) (st' := [.inl (v6)]) rfl rfl rfl rfl rfl rfl rfl rfl rfl rfl (Nat.zero_le _) rfl (am_CC_le (Nat.le_of_ble_eq_true rfl) (tm_X5_point h)) (fun r M22 q => ?_) (fun E M q => hX _ _ q)
        obtain ⟨x21, rfl, h⟩ := q
        refine am_Wrun 4 (ps := []) (pc' := 441) (lv' := [(10, .inl (x19)), (9, .inl (x15)), (8, .inl (s0)), (0, .inr (.inl (some 0))), (1, .inl (v1)), (5, .inl (v5)), (6, .inl (v6)), (7, .inl (v7))]) (st' := [.inl ((x21 * x19) - x15), .inl (v6)]) (M' := M22) rfl trivial ?_
        refine am_WcallS (y := 75) (n := 1) (f := 444) (co := 0) (as := [.inl ((x21 * x19) - x15)]) (st' := [.inl (v6)]) rfl rfl rfl rfl rfl rfl rfl rfl rfl (Nat.zero_le _) rfl (am_CC_le (Nat.le_of_ble_eq_true rfl) (tm_L_size h)) (fun r M24 q => ?_) (fun _ _ q => q.elim)
        obtain ⟨x23, rfl, h⟩ := q
        obtain ⟨b0, b1, ht, hf⟩ := h
        refine am_Wbr (P := [am_rg v6, am_rg x23]) (c := ¬ v6 = x23) (t := 489) (f := 447) (st' := []) rfl rfl ⟨b0, b1, trivial⟩ rfl (fun q => ?_) (fun q => ?_)
        · have h := ht q
          refine am_Wrun 1 (ps := []) (pc' := 490) (lv' := [(10, .inl (x19)), (9, .inl (x15)), (8, .inl (s0)), (0, .inr (.inl (some 0))), (1, .inl (v1)), (5, .inl (v5)), (6, .inl (v6)), (7, .inl (v7))]) (st' := [.inl (0)]) (M' := M24) rfl trivial ?_
          exact am_Wretz rfl rfl (Or.inl rfl) h
        · have h := hf q
          refine am_Wrun 3 (ps := []) (pc' := 450) (lv' := [(10, .inl (x19)), (9, .inl (x15)), (8, .inl (s0)), (0, .inr (.inl (some 0))), (1, .inl (v1)), (5, .inl (v5)), (6, .inl (v6)), (7, .inl (v7))]) (st' := [.inl (3), .inl (v1), .inr (.inl (some 0))]) (M' := M24) rfl trivial ?_
          refine am_WcallV (y := 66) (n := 3) (a := 0) (f := 453) (as := [.inl (v1), .inl (3)]) (st' := []) rfl rfl rfl rfl rfl rfl rfl rfl rfl rfl (Nat.zero_le _) rfl (am_CC_le (Nat.le_of_ble_eq_true rfl) (tm_X5_point h)) (fun r M26 q => ?_) (fun E M q => hX _ _ q)
          obtain ⟨x25, rfl, h⟩ := q
          refine am_Wrun 3 (ps := []) (pc' := 457) (lv' := [(10, .inl (x19)), (9, .inl (x15)), (8, .inl (s0)), (0, .inr (.inl (some 0))), (1, .inl (v1)), (5, .inl (v5)), (6, .inl (v6)), (7, .inl (v7))]) (st' := [.inl (0), .inr (.inl (some 0)), .inl (v6), .inl (x25)]) (M' := M26) rfl trivial ?_
          refine am_WcallV (y := 61) (n := 2) (a := 0) (f := 460) (as := [.inl (0)]) (st' := [.inl (v6), .inl (x25)]) rfl rfl rfl rfl rfl rfl rfl rfl rfl rfl (Nat.zero_le _) rfl (am_CC_le (Nat.le_of_ble_eq_true rfl) (tm_X5_setting h)) (fun r M28 q => ?_) (fun E M q => hX _ _ q)
          obtain ⟨x27, rfl, h⟩ := q
          refine am_Wrun 2 (ps := []) (pc' := 463) (lv' := [(10, .inl (x19)), (9, .inl (x15)), (8, .inl (s0)), (0, .inr (.inl (some 0))), (1, .inl (v1)), (5, .inl (v5)), (6, .inl (v6)), (7, .inl (v7))]) (st' := [.inl (x27 * v7), .inl (v6), .inl (x25)]) (M' := M28) rfl trivial ?_
          obtain ⟨b0, b1, ht, hf⟩ := h
          refine am_Wbr (P := [am_rg v6, am_rg (x27 * v7)]) (c := v6 ≤ (x27 * v7)) (t := 470) (f := 466) (st' := [.inl (x25)]) rfl rfl ⟨b0, b1, trivial⟩ rfl (fun q => ?_) (fun q => ?_)
          · have h := ht q
            refine am_Wrun 1 (ps := []) (pc' := 471) (lv' := [(10, .inl (x19)), (9, .inl (x15)), (8, .inl (s0)), (0, .inr (.inl (some 0))), (1, .inl (v1)), (5, .inl (v5)), (6, .inl (v6)), (7, .inl (v7))]) (st' := [.inl (0), .inl (x25)]) (M' := M28) rfl trivial ?_
            refine am_W_sub [3, 4] rfl ?_
            exact tj_L_point_471 hX v1 0 x25 M28 h
          · have h := hf q
            refine am_Wrun 2 (ps := []) (pc' := 471) (lv' := [(10, .inl (x19)), (9, .inl (x15)), (8, .inl (s0)), (0, .inr (.inl (some 0))), (1, .inl (v1)), (5, .inl (v5)), (6, .inl (v6)), (7, .inl (v7))]) (st' := [.inl (1), .inl (x25)]) (M' := M28) rfl trivial ?_
            refine am_W_sub [3, 4] rfl ?_
            exact tj_L_point_471 hX v1 1 x25 M28 h
  · have h := hf q
    refine am_Wrun 1 (ps := []) (pc' := 345) (lv' := [(8, .inl (s0)), (0, .inr (.inl (some 0))), (1, .inl (v1)), (5, .inl (v5)), (6, .inl (v6)), (7, .inl (v7))]) (st' := [.inl (v5)]) (M' := M) rfl trivial ?_
    obtain ⟨b0, ht, hf⟩ := h
    refine am_Wbr (P := [am_rg v5]) (c := v5 = 0) (t := 387) (f := 348) (st' := []) rfl rfl ⟨b0, trivial⟩ rfl (fun q => ?_) (fun q => ?_)
    · have h := ht q
      refine am_Wrun 1 (ps := []) (pc' := 388) (lv' := [(8, .inl (s0)), (0, .inr (.inl (some 0))), (1, .inl (v1)), (5, .inl (v5)), (6, .inl (v6)), (7, .inl (v7))]) (st' := [.inl (0)]) (M' := M) rfl trivial ?_
      exact am_Wretz rfl rfl (Or.inl rfl) h
    · have h := hf q
      refine am_Wrun 2 (ps := []) (pc' := 352) (lv' := [(8, .inl (s0)), (0, .inr (.inl (some 0))), (1, .inl (v1)), (5, .inl (v5)), (6, .inl (v6)), (7, .inl (v7))]) (st' := [.inl ((-1000000)), .inl (v6)]) (M' := M) rfl trivial ?_
      obtain ⟨b0, ht, hf⟩ := h
      refine am_Wbr (P := [am_rg v6, am_rg (-1000000)]) (c := ¬ v6 = (-1000000)) (t := 387) (f := 355) (st' := []) rfl rfl ⟨b0, (am_rgd rfl), trivial⟩ rfl (fun q => ?_) (fun q => ?_)
      · have h := ht q
        refine am_Wrun 1 (ps := []) (pc' := 388) (lv' := [(8, .inl (s0)), (0, .inr (.inl (some 0))), (1, .inl (v1)), (5, .inl (v5)), (6, .inl (v6)), (7, .inl (v7))]) (st' := [.inl (0)]) (M' := M) rfl trivial ?_
        exact am_Wretz rfl rfl (Or.inl rfl) h
      · have h := hf q
        refine am_Wrun 2 (ps := []) (pc' := 359) (lv' := [(8, .inl (s0)), (0, .inr (.inl (some 0))), (1, .inl (v1)), (5, .inl (v5)), (6, .inl (v6)), (7, .inl (v7))]) (st' := [.inl ((-1000000)), .inl (v7)]) (M' := M) rfl trivial ?_
        obtain ⟨b0, ht, hf⟩ := h
        refine am_Wbr (P := [am_rg v7, am_rg (-1000000)]) (c := ¬ v7 = (-1000000)) (t := 387) (f := 362) (st' := []) rfl rfl ⟨b0, (am_rgd rfl), trivial⟩ rfl (fun q => ?_) (fun q => ?_)
        · have h := ht q
          refine am_Wrun 1 (ps := []) (pc' := 388) (lv' := [(8, .inl (s0)), (0, .inr (.inl (some 0))), (1, .inl (v1)), (5, .inl (v5)), (6, .inl (v6)), (7, .inl (v7))]) (st' := [.inl (0)]) (M' := M) rfl trivial ?_
          exact am_Wretz rfl rfl (Or.inl rfl) h
        · have h := hf q
          refine am_Wrun 3 (ps := []) (pc' := 365) (lv' := [(8, .inl (s0)), (0, .inr (.inl (some 0))), (1, .inl (v1)), (5, .inl (v5)), (6, .inl (v6)), (7, .inl (v7))]) (st' := [.inl (3), .inl (v1), .inr (.inl (some 0))]) (M' := M) rfl trivial ?_
          refine am_WcallV (y := 66) (n := 3) (a := 0) (f := 368) (as := [.inl (v1), .inl (3)]) (st' := []) rfl rfl rfl rfl rfl rfl rfl rfl rfl rfl (Nat.zero_le _) rfl (am_CC_le (Nat.le_of_ble_eq_true rfl) (tm_X5_point h)) (fun r M32 q => ?_) (fun E M q => hX _ _ q)
          obtain ⟨x31, rfl, h⟩ := q
          refine am_Wrun 1 (ps := []) (pc' := 369) (lv' := [(8, .inl (s0)), (0, .inr (.inl (some 0))), (1, .inl (v1)), (5, .inl (v5)), (6, .inl (v6)), (7, .inl (v7))]) (st' := [.inl (1), .inl (x31)]) (M' := M32) rfl trivial ?_
          obtain ⟨b0, ht, hf⟩ := h
          refine am_Wbr (P := [am_rg x31, am_rg 1]) (c := ¬ x31 = 1) (t := 387) (f := 372) (st' := []) rfl rfl ⟨b0, (am_rgd rfl), trivial⟩ rfl (fun q => ?_) (fun q => ?_)
          · have h := ht q
            refine am_Wrun 1 (ps := []) (pc' := 388) (lv' := [(8, .inl (s0)), (0, .inr (.inl (some 0))), (1, .inl (v1)), (5, .inl (v5)), (6, .inl (v6)), (7, .inl (v7))]) (st' := [.inl (0)]) (M' := M32) rfl trivial ?_
            exact am_Wretz rfl rfl (Or.inl rfl) h
          · have h := hf q
            refine am_Wrun 3 (ps := [-128 ≤ (7 : Int) ∧ (7 : Int) ≤ 127]) (pc' := 376) (lv' := [(8, .inl (s0)), (0, .inr (.inl (some 0))), (1, .inl (v1)), (5, .inl (v5)), (6, .inl (v6)), (7, .inl (v7))]) (st' := [.inl (7), .inl (v1), .inr (.inl (some 0))]) (M' := M32) rfl ⟨⟨by decide, by decide⟩, trivial⟩ ?_
            refine am_WcallV (y := 66) (n := 3) (a := 0) (f := 379) (as := [.inl (v1), .inl (7)]) (st' := []) rfl rfl rfl rfl rfl rfl rfl rfl rfl rfl (Nat.zero_le _) rfl (am_CC_le (Nat.le_of_ble_eq_true rfl) (tm_X5_point h)) (fun r M34 q => ?_) (fun E M q => hX _ _ q)
            obtain ⟨x33, rfl, h⟩ := q
            refine am_Wrun 1 (ps := []) (pc' := 380) (lv' := [(8, .inl (s0)), (0, .inr (.inl (some 0))), (1, .inl (v1)), (5, .inl (v5)), (6, .inl (v6)), (7, .inl (v7))]) (st' := [.inl (1), .inl (x33)]) (M' := M34) rfl trivial ?_
            obtain ⟨b0, ht, hf⟩ := h
            refine am_Wbr (P := [am_rg x33, am_rg 1]) (c := ¬ x33 = 1) (t := 387) (f := 383) (st' := []) rfl rfl ⟨b0, (am_rgd rfl), trivial⟩ rfl (fun q => ?_) (fun q => ?_)
            · have h := ht q
              refine am_Wrun 1 (ps := []) (pc' := 388) (lv' := [(8, .inl (s0)), (0, .inr (.inl (some 0))), (1, .inl (v1)), (5, .inl (v5)), (6, .inl (v6)), (7, .inl (v7))]) (st' := [.inl (0)]) (M' := M34) rfl trivial ?_
              exact am_Wretz rfl rfl (Or.inl rfl) h
            · have h := hf q
              refine am_Wrun 2 (ps := []) (pc' := 388) (lv' := [(8, .inl (s0)), (0, .inr (.inl (some 0))), (1, .inl (v1)), (5, .inl (v5)), (6, .inl (v6)), (7, .inl (v7))]) (st' := [.inl (1)]) (M' := M34) rfl trivial ?_
              exact am_Wretz rfl rfl (Or.inr rfl) h
set_option maxRecDepth 20000 in
theorem tj_L_point_335 {Q : Int → am_M → Prop} {X : am_X} {QX : am_X} (hX : ∀ E M, X E M → QX E M) (v1 : Int) (v5 : Int) (v6 : Int) (v7 : Int) (M : am_M) (h : wj_L_point_335 Q X v1 v5 v6 v7 M) : am_W (am_CC 7) dt_L_point 7 0 none (am_QI Q) QX (0, 335, [(0, .inr (.inl (some 0))), (1, .inl (v1)), (5, .inl (v5)), (6, .inl (v6)), (7, .inl (v7))], [], M) := by
  refine am_Wrun 1 (ps := []) (pc' := 336) (lv' := [(0, .inr (.inl (some 0))), (1, .inl (v1)), (5, .inl (v5)), (6, .inl (v6)), (7, .inl (v7))]) (st' := [.inl (0)]) (M' := M) rfl trivial ?_
  refine am_W_sub [0, 1, 2, 3, 4] rfl ?_
  exact tj_L_point_336 hX v1 v5 v6 v7 0 M h
set_option maxRecDepth 20000 in
theorem tj_L_point_236 {Q : Int → am_M → Prop} {X : am_X} {QX : am_X} (hX : ∀ E M, X E M → QX E M) (v1 : Int) (v2 : Int) (v3 : Int) (v4 : Int) (v5 : Int) (M : am_M) (h : wj_L_point_236 Q X v1 v2 v3 v4 v5 M) : am_W (am_CC 7) dt_L_point 7 0 none (am_QI Q) QX (0, 236, [(0, .inr (.inl (some 0))), (1, .inl (v1)), (2, .inl (v2)), (3, .inl (v3)), (4, .inl (v4)), (5, .inl (v5))], [], M) := by
  refine am_Wrun 3 (ps := []) (pc' := 239) (lv' := [(0, .inr (.inl (some 0))), (1, .inl (v1)), (2, .inl (v2)), (3, .inl (v3)), (4, .inl (v4)), (5, .inl (v5))]) (st' := [.inl (0), .inl (v1), .inr (.inl (some 0))]) (M' := M) rfl trivial ?_
  refine am_WcallV (y := 72) (n := 3) (a := 0) (f := 242) (as := [.inl (v1), .inl (0)]) (st' := []) rfl rfl rfl rfl rfl rfl rfl rfl rfl rfl (Nat.zero_le _) rfl (am_CC_le (Nat.le_of_ble_eq_true rfl) (tm_X5_error h)) (fun r M10 q => ?_) (fun E M q => hX _ _ q)
  obtain ⟨x9, rfl, h⟩ := q
  refine am_Wrun 4 (ps := []) (pc' := 247) (lv' := [(6, .inl (x9)), (0, .inr (.inl (some 0))), (1, .inl (v1)), (2, .inl (v2)), (3, .inl (v3)), (4, .inl (v4)), (5, .inl (v5))]) (st' := [.inl (1), .inl (v1), .inr (.inl (some 0))]) (M' := M10) rfl trivial ?_
  refine am_WcallV (y := 72) (n := 3) (a := 0) (f := 250) (as := [.inl (v1), .inl (1)]) (st' := []) rfl rfl rfl rfl rfl rfl rfl rfl rfl rfl (Nat.zero_le _) rfl (am_CC_le (Nat.le_of_ble_eq_true rfl) (tm_X5_error h)) (fun r M12 q => ?_) (fun E M q => hX _ _ q)
  obtain ⟨x11, rfl, h⟩ := q
  refine am_Wrun 2 (ps := []) (pc' := 253) (lv' := [(7, .inl (x11)), (6, .inl (x9)), (0, .inr (.inl (some 0))), (1, .inl (v1)), (2, .inl (v2)), (3, .inl (v3)), (4, .inl (v4)), (5, .inl (v5))]) (st' := [.inl (v2)]) (M' := M12) rfl trivial ?_
  obtain ⟨b0, ht, hf⟩ := h
  refine am_Wbr (P := [am_rg v2]) (c := v2 = 0) (t := 322) (f := 256) (st' := []) rfl rfl ⟨b0, trivial⟩ rfl (fun q => ?_) (fun q => ?_)
  · have h := ht q
    refine am_Wrun 1 (ps := []) (pc' := 323) (lv' := [(7, .inl (x11)), (6, .inl (x9)), (0, .inr (.inl (some 0))), (1, .inl (v1)), (2, .inl (v2)), (3, .inl (v3)), (4, .inl (v4)), (5, .inl (v5))]) (st' := [.inl (v3)]) (M' := M12) rfl trivial ?_
    obtain ⟨b0, ht, hf⟩ := h
    refine am_Wbr (P := [am_rg v3]) (c := v3 < 0) (t := 335) (f := 326) (st' := []) rfl rfl ⟨b0, trivial⟩ rfl (fun q => ?_) (fun q => ?_)
    · have h := ht q
      refine am_W_sub [2, 3, 7, 1, 0] rfl ?_
      exact tj_L_point_335 hX v1 v5 x9 x11 M12 h
    · have h := hf q
      refine am_Wrun 1 (ps := []) (pc' := 328) (lv' := [(7, .inl (x11)), (6, .inl (x9)), (0, .inr (.inl (some 0))), (1, .inl (v1)), (2, .inl (v2)), (3, .inl (v3)), (4, .inl (v4)), (5, .inl (v5))]) (st' := [.inl (v4)]) (M' := M12) rfl trivial ?_
      obtain ⟨b0, ht, hf⟩ := h
      refine am_Wbr (P := [am_rg v4]) (c := v4 < 0) (t := 335) (f := 331) (st' := []) rfl rfl ⟨b0, trivial⟩ rfl (fun q => ?_) (fun q => ?_)
      · have h := ht q
        refine am_W_sub [2, 3, 7, 1, 0] rfl ?_
        exact tj_L_point_335 hX v1 v5 x9 x11 M12 h
      · have h := hf q
        refine am_Wrun 2 (ps := []) (pc' := 336) (lv' := [(7, .inl (x11)), (6, .inl (x9)), (0, .inr (.inl (some 0))), (1, .inl (v1)), (2, .inl (v2)), (3, .inl (v3)), (4, .inl (v4)), (5, .inl (v5))]) (st' := [.inl (1)]) (M' := M12) rfl trivial ?_
        refine am_W_sub [2, 3, 7, 1, 0] rfl ?_
        exact tj_L_point_336 hX v1 v5 x9 x11 1 M12 h
  · have h := hf q
    refine am_Wrun 1 (ps := []) (pc' := 258) (lv' := [(7, .inl (x11)), (6, .inl (x9)), (0, .inr (.inl (some 0))), (1, .inl (v1)), (2, .inl (v2)), (3, .inl (v3)), (4, .inl (v4)), (5, .inl (v5))]) (st' := [.inl (v5)]) (M' := M12) rfl trivial ?_
    obtain ⟨b0, ht, hf⟩ := h
    refine am_Wbr (P := [am_rg v5]) (c := v5 = 0) (t := 320) (f := 261) (st' := []) rfl rfl ⟨b0, trivial⟩ rfl (fun q => ?_) (fun q => ?_)
    · have h := ht q
      refine am_Wrun 1 (ps := []) (pc' := 321) (lv' := [(7, .inl (x11)), (6, .inl (x9)), (0, .inr (.inl (some 0))), (1, .inl (v1)), (2, .inl (v2)), (3, .inl (v3)), (4, .inl (v4)), (5, .inl (v5))]) (st' := [.inl (0)]) (M' := M12) rfl trivial ?_
      exact am_Wretz rfl rfl (Or.inl rfl) h
    · have h := hf q
      refine am_Wrun 1 (ps := []) (pc' := 263) (lv' := [(7, .inl (x11)), (6, .inl (x9)), (0, .inr (.inl (some 0))), (1, .inl (v1)), (2, .inl (v2)), (3, .inl (v3)), (4, .inl (v4)), (5, .inl (v5))]) (st' := [.inl (x9)]) (M' := M12) rfl trivial ?_
      obtain ⟨b0, ht, hf⟩ := h
      refine am_Wbr (P := [am_rg x9]) (c := ¬ x9 = 0) (t := 320) (f := 266) (st' := []) rfl rfl ⟨b0, trivial⟩ rfl (fun q => ?_) (fun q => ?_)
      · have h := ht q
        refine am_Wrun 1 (ps := []) (pc' := 321) (lv' := [(7, .inl (x11)), (6, .inl (x9)), (0, .inr (.inl (some 0))), (1, .inl (v1)), (2, .inl (v2)), (3, .inl (v3)), (4, .inl (v4)), (5, .inl (v5))]) (st' := [.inl (0)]) (M' := M12) rfl trivial ?_
        exact am_Wretz rfl rfl (Or.inl rfl) h
      · have h := hf q
        refine am_Wrun 2 (ps := []) (pc' := 269) (lv' := [(7, .inl (x11)), (6, .inl (x9)), (0, .inr (.inl (some 0))), (1, .inl (v1)), (2, .inl (v2)), (3, .inl (v3)), (4, .inl (v4)), (5, .inl (v5))]) (st' := [.inl (1), .inl (x11)]) (M' := M12) rfl trivial ?_
        obtain ⟨b0, ht, hf⟩ := h
        refine am_Wbr (P := [am_rg x11, am_rg 1]) (c := ¬ x11 = 1) (t := 320) (f := 272) (st' := []) rfl rfl ⟨b0, (am_rgd rfl), trivial⟩ rfl (fun q => ?_) (fun q => ?_)
        · have h := ht q
          refine am_Wrun 1 (ps := []) (pc' := 321) (lv' := [(7, .inl (x11)), (6, .inl (x9)), (0, .inr (.inl (some 0))), (1, .inl (v1)), (2, .inl (v2)), (3, .inl (v3)), (4, .inl (v4)), (5, .inl (v5))]) (st' := [.inl (0)]) (M' := M12) rfl trivial ?_
          exact am_Wretz rfl rfl (Or.inl rfl) h
        · have h := hf q
          refine am_Wrun 3 (ps := []) (pc' := 275) (lv' := [(7, .inl (x11)), (6, .inl (x9)), (0, .inr (.inl (some 0))), (1, .inl (v1)), (2, .inl (v2)), (3, .inl (v3)), (4, .inl (v4)), (5, .inl (v5))]) (st' := [.inl (3), .inl (v1), .inr (.inl (some 0))]) (M' := M12) rfl trivial ?_
          refine am_WcallV (y := 66) (n := 3) (a := 0) (f := 278) (as := [.inl (v1), .inl (3)]) (st' := []) rfl rfl rfl rfl rfl rfl rfl rfl rfl rfl (Nat.zero_le _) rfl (am_CC_le (Nat.le_of_ble_eq_true rfl) (tm_X5_point h)) (fun r M36 q => ?_) (fun E M q => hX _ _ q)
          obtain ⟨x35, rfl, h⟩ := q
          obtain ⟨b0, ht, hf⟩ := h
          refine am_Wbr (P := [am_rg x35]) (c := ¬ x35 = 0) (t := 320) (f := 281) (st' := []) rfl rfl ⟨b0, trivial⟩ rfl (fun q => ?_) (fun q => ?_)
          · have h := ht q
            refine am_Wrun 1 (ps := []) (pc' := 321) (lv' := [(7, .inl (x11)), (6, .inl (x9)), (0, .inr (.inl (some 0))), (1, .inl (v1)), (2, .inl (v2)), (3, .inl (v3)), (4, .inl (v4)), (5, .inl (v5))]) (st' := [.inl (0)]) (M' := M36) rfl trivial ?_
            exact am_Wretz rfl rfl (Or.inl rfl) h
          · have h := hf q
            refine am_Wrun 4 (ps := []) (pc' := 285) (lv' := [(7, .inl (x11)), (6, .inl (x9)), (0, .inr (.inl (some 0))), (1, .inl (v1)), (2, .inl (v2)), (3, .inl (v3)), (4, .inl (v4)), (5, .inl (v5))]) (st' := [.inl (0), .inl (v1), .inr (.inl (some 0)), .inr (.inl (some 0))]) (M' := M36) rfl trivial ?_
            refine am_WcallV (y := 66) (n := 3) (a := 0) (f := 288) (as := [.inl (v1), .inl (0)]) (st' := [.inr (.inl (some 0))]) rfl rfl rfl rfl rfl rfl rfl rfl rfl rfl (Nat.zero_le _) rfl (am_CC_le (Nat.le_of_ble_eq_true rfl) (tm_X5_point h)) (fun r M38 q => ?_) (fun E M q => hX _ _ q)
            obtain ⟨x37, rfl, h⟩ := q
            refine am_Wrun 1 (ps := []) (pc' := 289) (lv' := [(7, .inl (x11)), (6, .inl (x9)), (0, .inr (.inl (some 0))), (1, .inl (v1)), (2, .inl (v2)), (3, .inl (v3)), (4, .inl (v4)), (5, .inl (v5))]) (st' := [.inl (0), .inl (x37), .inr (.inl (some 0))]) (M' := M38) rfl trivial ?_
            refine am_WcallV (y := 73) (n := 3) (a := 0) (f := 292) (as := [.inl (x37), .inl (0)]) (st' := []) rfl rfl rfl rfl rfl rfl rfl rfl rfl rfl (Nat.zero_le _) rfl (am_CC_le (Nat.le_of_ble_eq_true rfl) (tm_X5_reading h)) (fun r M40 q => ?_) (fun E M q => hX _ _ q)
            obtain ⟨x39, rfl, h⟩ := q
            refine am_Wrun 3 (ps := []) (pc' := 295) (lv' := [(7, .inl (x11)), (6, .inl (x9)), (0, .inr (.inl (some 0))), (1, .inl (v1)), (2, .inl (v2)), (3, .inl (v3)), (4, .inl (v4)), (5, .inl (v5))]) (st' := [.inl (1), .inl (v1), .inr (.inl (some 0)), .inl (x39)]) (M' := M40) rfl trivial ?_
            refine am_WcallV (y := 66) (n := 3) (a := 0) (f := 298) (as := [.inl (v1), .inl (1)]) (st' := [.inl (x39)]) rfl rfl rfl rfl rfl rfl rfl rfl rfl rfl (Nat.zero_le _) rfl (am_CC_le (Nat.le_of_ble_eq_true rfl) (tm_X5_point h)) (fun r M42 q => ?_) (fun E M q => hX _ _ q)
            obtain ⟨x41, rfl, h⟩ := q
            obtain ⟨b0, b1, ht, hf⟩ := h
            refine am_Wbr (P := [am_rg x39, am_rg x41]) (c := ¬ x39 = x41) (t := 320) (f := 301) (st' := []) rfl rfl ⟨b0, b1, trivial⟩ rfl (fun q => ?_) (fun q => ?_)
            · have h := ht q
              refine am_Wrun 1 (ps := []) (pc' := 321) (lv' := [(7, .inl (x11)), (6, .inl (x9)), (0, .inr (.inl (some 0))), (1, .inl (v1)), (2, .inl (v2)), (3, .inl (v3)), (4, .inl (v4)), (5, .inl (v5))]) (st' := [.inl (0)]) (M' := M42) rfl trivial ?_
              exact am_Wretz rfl rfl (Or.inl rfl) h
            · have h := hf q
              refine am_Wrun 4 (ps := []) (pc' := 305) (lv' := [(7, .inl (x11)), (6, .inl (x9)), (0, .inr (.inl (some 0))), (1, .inl (v1)), (2, .inl (v2)), (3, .inl (v3)), (4, .inl (v4)), (5, .inl (v5))]) (st' := [.inl (0), .inl (v1), .inr (.inl (some 0)), .inr (.inl (some 0))]) (M' := M42) rfl trivial ?_
              refine am_WcallV (y := 66) (n := 3) (a := 0) (f := 308) (as := [.inl (v1), .inl (0)]) (st' := [.inr (.inl (some 0))]) rfl rfl rfl rfl rfl rfl rfl rfl rfl rfl (Nat.zero_le _) rfl (am_CC_le (Nat.le_of_ble_eq_true rfl) (tm_X5_point h)) (fun r M44 q => ?_) (fun E M q => hX _ _ q)
              obtain ⟨x43, rfl, h⟩ := q
              refine am_Wrun 1 (ps := []) (pc' := 309) (lv' := [(7, .inl (x11)), (6, .inl (x9)), (0, .inr (.inl (some 0))), (1, .inl (v1)), (2, .inl (v2)), (3, .inl (v3)), (4, .inl (v4)), (5, .inl (v5))]) (st' := [.inl (1), .inl (x43), .inr (.inl (some 0))]) (M' := M44) rfl trivial ?_
              refine am_WcallV (y := 73) (n := 3) (a := 0) (f := 312) (as := [.inl (x43), .inl (1)]) (st' := []) rfl rfl rfl rfl rfl rfl rfl rfl rfl rfl (Nat.zero_le _) rfl (am_CC_le (Nat.le_of_ble_eq_true rfl) (tm_X5_reading h)) (fun r M46 q => ?_) (fun E M q => hX _ _ q)
              obtain ⟨x45, rfl, h⟩ := q
              refine am_Wrun 1 (ps := []) (pc' := 313) (lv' := [(7, .inl (x11)), (6, .inl (x9)), (0, .inr (.inl (some 0))), (1, .inl (v1)), (2, .inl (v2)), (3, .inl (v3)), (4, .inl (v4)), (5, .inl (v5))]) (st' := [.inl (1), .inl (x45)]) (M' := M46) rfl trivial ?_
              obtain ⟨b0, ht, hf⟩ := h
              refine am_Wbr (P := [am_rg x45, am_rg 1]) (c := ¬ x45 = 1) (t := 320) (f := 316) (st' := []) rfl rfl ⟨b0, (am_rgd rfl), trivial⟩ rfl (fun q => ?_) (fun q => ?_)
              · have h := ht q
                refine am_Wrun 1 (ps := []) (pc' := 321) (lv' := [(7, .inl (x11)), (6, .inl (x9)), (0, .inr (.inl (some 0))), (1, .inl (v1)), (2, .inl (v2)), (3, .inl (v3)), (4, .inl (v4)), (5, .inl (v5))]) (st' := [.inl (0)]) (M' := M46) rfl trivial ?_
                exact am_Wretz rfl rfl (Or.inl rfl) h
              · have h := hf q
                refine am_Wrun 2 (ps := []) (pc' := 321) (lv' := [(7, .inl (x11)), (6, .inl (x9)), (0, .inr (.inl (some 0))), (1, .inl (v1)), (2, .inl (v2)), (3, .inl (v3)), (4, .inl (v4)), (5, .inl (v5))]) (st' := [.inl (1)]) (M' := M46) rfl trivial ?_
                exact am_Wretz rfl rfl (Or.inr rfl) h
set_option maxRecDepth 20000 in
theorem tj_L_point_206 {Q : Int → am_M → Prop} {X : am_X} {QX : am_X} {k150 : Int → Int → Int → Int → Int → Int → am_M → Prop} (hk150 : ∀ (v1 : Int) (v2 : Int) (v3 : Int) (v4 : Int) (v5 : Int) (v6 : Int) (M : am_M), k150 v1 v2 v3 v4 v5 v6 M → am_W (am_CC 7) dt_L_point 7 0 none (am_QI Q) QX (0, 150, [(0, .inr (.inl (some 0))), (1, .inl (v1)), (2, .inl (v2)), (3, .inl (v3)), (4, .inl (v4)), (5, .inl (v5)), (6, .inl (v6))], [], M)) (hX : ∀ E M, X E M → QX E M) (v1 : Int) (v2 : Int) (v3 : Int) (v4 : Int) (v6 : Int) (s0 : Int) (M : am_M) (h : wj_L_point_206 Q X k150 v1 v2 v3 v4 v6 s0 M) : am_W (am_CC 7) dt_L_point 7 0 none (am_QI Q) QX (0, 206, [(0, .inr (.inl (some 0))), (1, .inl (v1)), (2, .inl (v2)), (3, .inl (v3)), (4, .inl (v4)), (6, .inl (v6))], [.inl (s0)], M) := by
  refine am_Wrun 2 (ps := []) (pc' := 210) (lv' := [(7, .inl (s0)), (0, .inr (.inl (some 0))), (1, .inl (v1)), (2, .inl (v2)), (3, .inl (v3)), (4, .inl (v4)), (6, .inl (v6))]) (st' := [.inl (s0)]) (M' := M) rfl trivial ?_
  obtain ⟨b0, ht, hf⟩ := h
  refine am_Wbr (P := [am_rg s0]) (c := s0 = 0) (t := 223) (f := 213) (st' := []) rfl rfl ⟨b0, trivial⟩ rfl (fun q => ?_) (fun q => ?_)
  · have h := ht q
    refine am_Wrun 5 (ps := []) (pc' := 150) (lv' := [(6, .inl (v6 + 1)), (5, .inl (1)), (7, .inl (s0)), (0, .inr (.inl (some 0))), (1, .inl (v1)), (2, .inl (v2)), (3, .inl (v3)), (4, .inl (v4))]) (st' := []) (M' := M) rfl trivial ?_
    refine am_W_sub [3, 4, 5, 6, 7, 1, 0] rfl ?_
    exact hk150 v1 v2 v3 v4 1 (v6 + 1) M h
  · have h := hf q
    refine am_Wrun 3 (ps := []) (pc' := 217) (lv' := [(7, .inl (s0)), (0, .inr (.inl (some 0))), (1, .inl (v1)), (2, .inl (v2)), (3, .inl (v3)), (4, .inl (v4)), (6, .inl (v6))]) (st' := [.inl (2), .inl (v6), .inr (.inl (some 0))]) (M' := M) rfl trivial ?_
    refine am_WcallV (y := 66) (n := 3) (a := 0) (f := 220) (as := [.inl (v6), .inl (2)]) (st' := []) rfl rfl rfl rfl rfl rfl rfl rfl rfl rfl (Nat.zero_le _) rfl (am_CC_le (Nat.le_of_ble_eq_true rfl) (tm_X5_point h)) (fun r M48 q => ?_) (fun E M q => hX _ _ q)
    obtain ⟨x47, rfl, h⟩ := q
    obtain ⟨b0, ht, hf⟩ := h
    refine am_Wbr (P := [am_rg x47]) (c := ¬ x47 = 0) (t := 227) (f := 223) (st' := []) rfl rfl ⟨b0, trivial⟩ rfl (fun q => ?_) (fun q => ?_)
    · have h := ht q
      refine am_Wrun 4 (ps := []) (pc' := 150) (lv' := [(6, .inl (v6 + 1)), (5, .inl (0)), (7, .inl (s0)), (0, .inr (.inl (some 0))), (1, .inl (v1)), (2, .inl (v2)), (3, .inl (v3)), (4, .inl (v4))]) (st' := []) (M' := M48) rfl trivial ?_
      refine am_W_sub [3, 4, 5, 6, 7, 1, 0] rfl ?_
      exact hk150 v1 v2 v3 v4 0 (v6 + 1) M48 h
    · have h := hf q
      refine am_Wrun 5 (ps := []) (pc' := 150) (lv' := [(6, .inl (v6 + 1)), (5, .inl (1)), (7, .inl (s0)), (0, .inr (.inl (some 0))), (1, .inl (v1)), (2, .inl (v2)), (3, .inl (v3)), (4, .inl (v4))]) (st' := []) (M' := M48) rfl trivial ?_
      refine am_W_sub [3, 4, 5, 6, 7, 1, 0] rfl ?_
      exact hk150 v1 v2 v3 v4 1 (v6 + 1) M48 h
set_option maxRecDepth 20000 in
theorem tj_L_point_205 {Q : Int → am_M → Prop} {X : am_X} {QX : am_X} {k150 : Int → Int → Int → Int → Int → Int → am_M → Prop} (hk150 : ∀ (v1 : Int) (v2 : Int) (v3 : Int) (v4 : Int) (v5 : Int) (v6 : Int) (M : am_M), k150 v1 v2 v3 v4 v5 v6 M → am_W (am_CC 7) dt_L_point 7 0 none (am_QI Q) QX (0, 150, [(0, .inr (.inl (some 0))), (1, .inl (v1)), (2, .inl (v2)), (3, .inl (v3)), (4, .inl (v4)), (5, .inl (v5)), (6, .inl (v6))], [], M)) (hX : ∀ E M, X E M → QX E M) (v1 : Int) (v2 : Int) (v3 : Int) (v4 : Int) (v6 : Int) (M : am_M) (h : wj_L_point_205 Q X k150 v1 v2 v3 v4 v6 M) : am_W (am_CC 7) dt_L_point 7 0 none (am_QI Q) QX (0, 205, [(0, .inr (.inl (some 0))), (1, .inl (v1)), (2, .inl (v2)), (3, .inl (v3)), (4, .inl (v4)), (6, .inl (v6))], [], M) := by
  refine am_Wrun 1 (ps := []) (pc' := 206) (lv' := [(0, .inr (.inl (some 0))), (1, .inl (v1)), (2, .inl (v2)), (3, .inl (v3)), (4, .inl (v4)), (6, .inl (v6))]) (st' := [.inl (0)]) (M' := M) rfl trivial ?_
  refine am_W_sub [0, 1, 2, 3, 4, 5] rfl ?_
  exact tj_L_point_206 hk150 hX v1 v2 v3 v4 v6 0 M h
set_option maxRecDepth 20000 in
theorem tj_L_point_198 {Q : Int → am_M → Prop} {X : am_X} {QX : am_X} {k150 : Int → Int → Int → Int → Int → Int → am_M → Prop} (hk150 : ∀ (v1 : Int) (v2 : Int) (v3 : Int) (v4 : Int) (v5 : Int) (v6 : Int) (M : am_M), k150 v1 v2 v3 v4 v5 v6 M → am_W (am_CC 7) dt_L_point 7 0 none (am_QI Q) QX (0, 150, [(0, .inr (.inl (some 0))), (1, .inl (v1)), (2, .inl (v2)), (3, .inl (v3)), (4, .inl (v4)), (5, .inl (v5)), (6, .inl (v6))], [], M)) (hX : ∀ E M, X E M → QX E M) (v1 : Int) (v2 : Int) (v3 : Int) (v4 : Int) (v6 : Int) (s0 : Int) (s1 : Int) (M : am_M) (h : wj_L_point_198 Q X k150 v1 v2 v3 v4 v6 s0 s1 M) : am_W (am_CC 7) dt_L_point 7 0 none (am_QI Q) QX (0, 198, [(0, .inr (.inl (some 0))), (1, .inl (v1)), (2, .inl (v2)), (3, .inl (v3)), (4, .inl (v4)), (6, .inl (v6))], [.inl (s0), .inl (s1)], M) := by
  obtain ⟨b0, b1, ht, hf⟩ := h
  refine am_Wbr (P := [am_rg s1, am_rg s0]) (c := s0 ≤ s1) (t := 205) (f := 201) (st' := []) rfl rfl ⟨b0, b1, trivial⟩ rfl (fun q => ?_) (fun q => ?_)
  · have h := ht q
    refine am_W_sub [0, 1, 2, 3, 4, 5] rfl ?_
    exact tj_L_point_205 hk150 hX v1 v2 v3 v4 v6 M h
  · have h := hf q
    refine am_Wrun 2 (ps := []) (pc' := 206) (lv' := [(0, .inr (.inl (some 0))), (1, .inl (v1)), (2, .inl (v2)), (3, .inl (v3)), (4, .inl (v4)), (6, .inl (v6))]) (st' := [.inl (1)]) (M' := M) rfl trivial ?_
    refine am_W_sub [0, 1, 2, 3, 4, 5] rfl ?_
    exact tj_L_point_206 hk150 hX v1 v2 v3 v4 v6 1 M h
set_option maxRecDepth 20000 in
theorem tj_L_point_182 {Q : Int → am_M → Prop} {X : am_X} {QX : am_X} {k150 : Int → Int → Int → Int → Int → Int → am_M → Prop} (hk150 : ∀ (v1 : Int) (v2 : Int) (v3 : Int) (v4 : Int) (v5 : Int) (v6 : Int) (M : am_M), k150 v1 v2 v3 v4 v5 v6 M → am_W (am_CC 7) dt_L_point 7 0 none (am_QI Q) QX (0, 150, [(0, .inr (.inl (some 0))), (1, .inl (v1)), (2, .inl (v2)), (3, .inl (v3)), (4, .inl (v4)), (5, .inl (v5)), (6, .inl (v6))], [], M)) (hX : ∀ E M, X E M → QX E M) (v1 : Int) (v2 : Int) (v3 : Int) (v4 : Int) (v6 : Int) (s0 : Int) (s1 : Int) (M : am_M) (h : wj_L_point_182 Q X k150 v1 v2 v3 v4 v6 s0 s1 M) : am_W (am_CC 7) dt_L_point 7 0 none (am_QI Q) QX (0, 182, [(0, .inr (.inl (some 0))), (1, .inl (v1)), (2, .inl (v2)), (3, .inl (v3)), (4, .inl (v4)), (6, .inl (v6))], [.inl (s0), .inl (s1)], M) := by
  obtain ⟨b0, b1, ht, hf⟩ := h
  refine am_Wbr (P := [am_rg s1, am_rg s0]) (c := s1 ≤ s0) (t := 205) (f := 185) (st' := []) rfl rfl ⟨b0, b1, trivial⟩ rfl (fun q => ?_) (fun q => ?_)
  · have h := ht q
    refine am_W_sub [0, 1, 2, 3, 4, 5] rfl ?_
    exact tj_L_point_205 hk150 hX v1 v2 v3 v4 v6 M h
  · have h := hf q
    refine am_Wrun 2 (ps := []) (pc' := 189) (lv' := [(0, .inr (.inl (some 0))), (1, .inl (v1)), (2, .inl (v2)), (3, .inl (v3)), (4, .inl (v4)), (6, .inl (v6))]) (st' := [.inl (v4), .inl (v6)]) (M' := M) rfl trivial ?_
    obtain ⟨b0, ht, hf⟩ := h
    refine am_Wbr (P := [am_rg v4]) (c := 0 ≤ v4) (t := 196) (f := 192) (st' := [.inl (v6)]) rfl rfl ⟨b0, trivial⟩ rfl (fun q => ?_) (fun q => ?_)
    · have h := ht q
      refine am_Wrun 1 (ps := []) (pc' := 198) (lv' := [(0, .inr (.inl (some 0))), (1, .inl (v1)), (2, .inl (v2)), (3, .inl (v3)), (4, .inl (v4)), (6, .inl (v6))]) (st' := [.inl (v4), .inl (v6)]) (M' := M) rfl trivial ?_
      refine am_W_sub [0, 1, 2, 3, 4, 5] rfl ?_
      exact tj_L_point_198 hk150 hX v1 v2 v3 v4 v6 v4 v6 M h
    · have h := hf q
      refine am_Wrun 2 (ps := []) (pc' := 198) (lv' := [(0, .inr (.inl (some 0))), (1, .inl (v1)), (2, .inl (v2)), (3, .inl (v3)), (4, .inl (v4)), (6, .inl (v6))]) (st' := [.inl (v1), .inl (v6)]) (M' := M) rfl trivial ?_
      refine am_W_sub [0, 1, 2, 3, 4, 5] rfl ?_
      exact tj_L_point_198 hk150 hX v1 v2 v3 v4 v6 v1 v6 M h
set_option maxRecDepth 20000 in
theorem tw_L_point_150 {Q : Int → am_M → Prop} {X : am_X} {QX : am_X} (hX : ∀ E M, X E M → QX E M) : ∀ (n : Nat) (v1 : Int) (v2 : Int) (v3 : Int) (v4 : Int) (v5 : Int) (v6 : Int) (M : am_M), wl_L_point_150 Q X n v1 v2 v3 v4 v5 v6 M → am_W (am_CC 7) dt_L_point 7 0 none (am_QI Q) QX (0, 150, [(0, .inr (.inl (some 0))), (1, .inl (v1)), (2, .inl (v2)), (3, .inl (v3)), (4, .inl (v4)), (5, .inl (v5)), (6, .inl (v6))], [], M)
  | 0, _, _, _, _, _, _, _, h => h.elim
  | n + 1, v1, v2, v3, v4, v5, v6, M, h => by
    refine am_Wrun 3 (ps := []) (pc' := 154) (lv' := [(0, .inr (.inl (some 0))), (1, .inl (v1)), (2, .inl (v2)), (3, .inl (v3)), (4, .inl (v4)), (5, .inl (v5)), (6, .inl (v6))]) (st' := [.inl (0), .inr (.inl (some 0)), .inl (v6)]) (M' := M) rfl trivial ?_
    refine am_WcallV (y := 51) (n := 2) (a := 0) (f := 157) (as := [.inl (0)]) (st' := [.inl (v6)]) rfl rfl rfl rfl rfl rfl rfl rfl rfl rfl (Nat.zero_le _) rfl (am_CC_le (Nat.le_of_ble_eq_true rfl) (tm_X5_count h)) (fun r M8 q => ?_) (fun E M q => hX _ _ q)
    obtain ⟨x7, rfl, h⟩ := q
    obtain ⟨b0, b1, ht, hf⟩ := h
    refine am_Wbr (P := [am_rg v6, am_rg x7]) (c := x7 ≤ v6) (t := 236) (f := 160) (st' := []) rfl rfl ⟨b0, b1, trivial⟩ rfl (fun q => ?_) (fun q => ?_)
    · have h := ht q
      refine am_W_sub [0, 1, 2, 3, 4, 5] rfl ?_
      exact tj_L_point_236 hX v1 v2 v3 v4 v5 M8 h
    · have h := hf q
      refine am_Wrun 1 (ps := []) (pc' := 162) (lv' := [(0, .inr (.inl (some 0))), (1, .inl (v1)), (2, .inl (v2)), (3, .inl (v3)), (4, .inl (v4)), (5, .inl (v5)), (6, .inl (v6))]) (st' := [.inl (v5)]) (M' := M8) rfl trivial ?_
      obtain ⟨b0, ht, hf⟩ := h
      refine am_Wbr (P := [am_rg v5]) (c := v5 = 0) (t := 236) (f := 165) (st' := []) rfl rfl ⟨b0, trivial⟩ rfl (fun q => ?_) (fun q => ?_)
      · have h := ht q
        refine am_W_sub [0, 1, 2, 3, 4, 5] rfl ?_
        exact tj_L_point_236 hX v1 v2 v3 v4 v5 M8 h
      · have h := hf q
        refine am_Wrun 2 (ps := []) (pc' := 168) (lv' := [(0, .inr (.inl (some 0))), (1, .inl (v1)), (2, .inl (v2)), (3, .inl (v3)), (4, .inl (v4)), (5, .inl (v5)), (6, .inl (v6))]) (st' := [.inl (v1), .inl (v6)]) (M' := M8) rfl trivial ?_
        obtain ⟨b0, b1, ht, hf⟩ := h
        refine am_Wbr (P := [am_rg v6, am_rg v1]) (c := v6 = v1) (t := 205) (f := 171) (st' := []) rfl rfl ⟨b0, b1, trivial⟩ rfl (fun q => ?_) (fun q => ?_)
        · have h := ht q
          refine am_W_sub [0, 1, 2, 3, 4, 6] rfl ?_
          exact tj_L_point_205 (tw_L_point_150 hX n) hX v1 v2 v3 v4 v6 M8 h
        · have h := hf q
          refine am_Wrun 2 (ps := []) (pc' := 174) (lv' := [(0, .inr (.inl (some 0))), (1, .inl (v1)), (2, .inl (v2)), (3, .inl (v3)), (4, .inl (v4)), (5, .inl (v5)), (6, .inl (v6))]) (st' := [.inl (v3), .inl (v6)]) (M' := M8) rfl trivial ?_
          obtain ⟨b0, ht, hf⟩ := h
          refine am_Wbr (P := [am_rg v3]) (c := 0 ≤ v3) (t := 181) (f := 177) (st' := [.inl (v6)]) rfl rfl ⟨b0, trivial⟩ rfl (fun q => ?_) (fun q => ?_)
          · have h := ht q
            refine am_Wrun 1 (ps := []) (pc' := 182) (lv' := [(0, .inr (.inl (some 0))), (1, .inl (v1)), (2, .inl (v2)), (3, .inl (v3)), (4, .inl (v4)), (5, .inl (v5)), (6, .inl (v6))]) (st' := [.inl (v3), .inl (v6)]) (M' := M8) rfl trivial ?_
            refine am_W_sub [0, 1, 2, 3, 4, 6] rfl ?_
            exact tj_L_point_182 (tw_L_point_150 hX n) hX v1 v2 v3 v4 v6 v3 v6 M8 h
          · have h := hf q
            refine am_Wrun 2 (ps := []) (pc' := 182) (lv' := [(0, .inr (.inl (some 0))), (1, .inl (v1)), (2, .inl (v2)), (3, .inl (v3)), (4, .inl (v4)), (5, .inl (v5)), (6, .inl (v6))]) (st' := [.inl (v1), .inl (v6)]) (M' := M8) rfl trivial ?_
            refine am_W_sub [0, 1, 2, 3, 4, 6] rfl ?_
            exact tj_L_point_182 (tw_L_point_150 hX n) hX v1 v2 v3 v4 v6 v1 v6 M8 h
set_option maxRecDepth 20000 in
theorem tj_L_point_85 {Q : Int → am_M → Prop} {X : am_X} {QX : am_X} (hX : ∀ E M, X E M → QX E M) (v1 : Int) (v2 : Int) (v3 : Int) (v4 : Int) (s0 : Int) (M : am_M) (h : wj_L_point_85 Q X v1 v2 v3 v4 s0 M) : am_W (am_CC 7) dt_L_point 7 0 none (am_QI Q) QX (0, 85, [(0, .inr (.inl (some 0))), (1, .inl (v1)), (2, .inl (v2)), (3, .inl (v3)), (4, .inl (v4))], [.inl (s0)], M) := by
  refine am_Wrun 2 (ps := []) (pc' := 89) (lv' := [(5, .inl (s0)), (0, .inr (.inl (some 0))), (1, .inl (v1)), (2, .inl (v2)), (3, .inl (v3)), (4, .inl (v4))]) (st' := [.inl (s0)]) (M' := M) rfl trivial ?_
  obtain ⟨b0, ht, hf⟩ := h
  refine am_Wbr (P := [am_rg s0]) (c := s0 = 0) (t := 144) (f := 92) (st' := []) rfl rfl ⟨b0, trivial⟩ rfl (fun q => ?_) (fun q => ?_)
  · have h := ht q
    refine am_Wrun 4 (ps := []) (pc' := 150) (lv' := [(6, .inl (0)), (5, .inl (0)), (0, .inr (.inl (some 0))), (1, .inl (v1)), (2, .inl (v2)), (3, .inl (v3)), (4, .inl (v4))]) (st' := []) (M' := M) rfl trivial ?_
    refine am_W_sub [2, 3, 4, 5, 6, 1, 0] rfl ?_
    obtain ⟨n150, h⟩ := h
    exact tw_L_point_150 hX n150 v1 v2 v3 v4 0 0 M h
  · have h := hf q
    refine am_Wrun 1 (ps := []) (pc' := 94) (lv' := [(5, .inl (s0)), (0, .inr (.inl (some 0))), (1, .inl (v1)), (2, .inl (v2)), (3, .inl (v3)), (4, .inl (v4))]) (st' := [.inl (v4)]) (M' := M) rfl trivial ?_
    obtain ⟨b0, ht, hf⟩ := h
    refine am_Wbr (P := [am_rg v4]) (c := 0 ≤ v4) (t := 107) (f := 97) (st' := []) rfl rfl ⟨b0, trivial⟩ rfl (fun q => ?_) (fun q => ?_)
    · have h := ht q
      refine am_Wrun 2 (ps := []) (pc' := 110) (lv' := [(5, .inl (s0)), (0, .inr (.inl (some 0))), (1, .inl (v1)), (2, .inl (v2)), (3, .inl (v3)), (4, .inl (v4))]) (st' := [.inl (v1), .inl (v4)]) (M' := M) rfl trivial ?_
      obtain ⟨b0, b1, ht, hf⟩ := h
      refine am_Wbr (P := [am_rg v4, am_rg v1]) (c := v4 ≤ v1) (t := 144) (f := 113) (st' := []) rfl rfl ⟨b0, b1, trivial⟩ rfl (fun q => ?_) (fun q => ?_)
      · have h := ht q
        refine am_Wrun 4 (ps := []) (pc' := 150) (lv' := [(6, .inl (0)), (5, .inl (0)), (0, .inr (.inl (some 0))), (1, .inl (v1)), (2, .inl (v2)), (3, .inl (v3)), (4, .inl (v4))]) (st' := []) (M' := M) rfl trivial ?_
        refine am_W_sub [2, 3, 4, 5, 6, 1, 0] rfl ?_
        obtain ⟨n150, h⟩ := h
        exact tw_L_point_150 hX n150 v1 v2 v3 v4 0 0 M h
      · have h := hf q
        refine am_Wrun 3 (ps := []) (pc' := 117) (lv' := [(5, .inl (s0)), (0, .inr (.inl (some 0))), (1, .inl (v1)), (2, .inl (v2)), (3, .inl (v3)), (4, .inl (v4))]) (st' := [.inl (2), .inl (v4), .inr (.inl (some 0))]) (M' := M) rfl trivial ?_
        refine am_WcallV (y := 66) (n := 3) (a := 0) (f := 120) (as := [.inl (v4), .inl (2)]) (st' := []) rfl rfl rfl rfl rfl rfl rfl rfl rfl rfl (Nat.zero_le _) rfl (am_CC_le (Nat.le_of_ble_eq_true rfl) (tm_X5_point h)) (fun r M50 q => ?_) (fun E M q => hX _ _ q)
        obtain ⟨x49, rfl, h⟩ := q
        refine am_Wrun 1 (ps := []) (pc' := 121) (lv' := [(5, .inl (s0)), (0, .inr (.inl (some 0))), (1, .inl (v1)), (2, .inl (v2)), (3, .inl (v3)), (4, .inl (v4))]) (st' := [.inl (1), .inl (x49)]) (M' := M50) rfl trivial ?_
        obtain ⟨b0, ht, hf⟩ := h
        refine am_Wbr (P := [am_rg x49, am_rg 1]) (c := ¬ x49 = 1) (t := 144) (f := 124) (st' := []) rfl rfl ⟨b0, (am_rgd rfl), trivial⟩ rfl (fun q => ?_) (fun q => ?_)
        · have h := ht q
          refine am_Wrun 4 (ps := []) (pc' := 150) (lv' := [(6, .inl (0)), (5, .inl (0)), (0, .inr (.inl (some 0))), (1, .inl (v1)), (2, .inl (v2)), (3, .inl (v3)), (4, .inl (v4))]) (st' := []) (M' := M50) rfl trivial ?_
          refine am_W_sub [2, 3, 4, 5, 6, 1, 0] rfl ?_
          obtain ⟨n150, h⟩ := h
          exact tw_L_point_150 hX n150 v1 v2 v3 v4 0 0 M50 h
        · have h := hf q
          refine am_Wrun 3 (ps := []) (pc' := 128) (lv' := [(5, .inl (s0)), (0, .inr (.inl (some 0))), (1, .inl (v1)), (2, .inl (v2)), (3, .inl (v3)), (4, .inl (v4))]) (st' := [.inl (4), .inl (v4), .inr (.inl (some 0))]) (M' := M50) rfl trivial ?_
          refine am_WcallV (y := 66) (n := 3) (a := 0) (f := 131) (as := [.inl (v4), .inl (4)]) (st' := []) rfl rfl rfl rfl rfl rfl rfl rfl rfl rfl (Nat.zero_le _) rfl (am_CC_le (Nat.le_of_ble_eq_true rfl) (tm_X5_point h)) (fun r M52 q => ?_) (fun E M q => hX _ _ q)
          obtain ⟨x51, rfl, h⟩ := q
          refine am_Wrun 3 (ps := []) (pc' := 134) (lv' := [(5, .inl (s0)), (0, .inr (.inl (some 0))), (1, .inl (v1)), (2, .inl (v2)), (3, .inl (v3)), (4, .inl (v4))]) (st' := [.inl (4), .inl (v1), .inr (.inl (some 0)), .inl (x51)]) (M' := M52) rfl trivial ?_
          refine am_WcallV (y := 66) (n := 3) (a := 0) (f := 137) (as := [.inl (v1), .inl (4)]) (st' := [.inl (x51)]) rfl rfl rfl rfl rfl rfl rfl rfl rfl rfl (Nat.zero_le _) rfl (am_CC_le (Nat.le_of_ble_eq_true rfl) (tm_X5_point h)) (fun r M54 q => ?_) (fun E M q => hX _ _ q)
          obtain ⟨x53, rfl, h⟩ := q
          obtain ⟨b0, b1, ht, hf⟩ := h
          refine am_Wbr (P := [am_rg x51, am_rg x53]) (c := ¬ x51 = x53) (t := 144) (f := 140) (st' := []) rfl rfl ⟨b0, b1, trivial⟩ rfl (fun q => ?_) (fun q => ?_)
          · have h := ht q
            refine am_Wrun 4 (ps := []) (pc' := 150) (lv' := [(6, .inl (0)), (5, .inl (0)), (0, .inr (.inl (some 0))), (1, .inl (v1)), (2, .inl (v2)), (3, .inl (v3)), (4, .inl (v4))]) (st' := []) (M' := M54) rfl trivial ?_
            refine am_W_sub [2, 3, 4, 5, 6, 1, 0] rfl ?_
            obtain ⟨n150, h⟩ := h
            exact tw_L_point_150 hX n150 v1 v2 v3 v4 0 0 M54 h
          · have h := hf q
            refine am_Wrun 5 (ps := []) (pc' := 150) (lv' := [(6, .inl (0)), (5, .inl (1)), (0, .inr (.inl (some 0))), (1, .inl (v1)), (2, .inl (v2)), (3, .inl (v3)), (4, .inl (v4))]) (st' := []) (M' := M54) rfl trivial ?_
            refine am_W_sub [2, 3, 4, 5, 6, 1, 0] rfl ?_
            obtain ⟨n150, h⟩ := h
            exact tw_L_point_150 hX n150 v1 v2 v3 v4 1 0 M54 h
    · have h := hf q
      refine am_Wrun 2 (ps := []) (pc' := 101) (lv' := [(5, .inl (s0)), (0, .inr (.inl (some 0))), (1, .inl (v1)), (2, .inl (v2)), (3, .inl (v3)), (4, .inl (v4))]) (st' := [.inl ((-1000000)), .inl (v4)]) (M' := M) rfl trivial ?_
      obtain ⟨b0, ht, hf⟩ := h
      refine am_Wbr (P := [am_rg v4, am_rg (-1000000)]) (c := ¬ v4 = (-1000000)) (t := 144) (f := 104) (st' := []) rfl rfl ⟨b0, (am_rgd rfl), trivial⟩ rfl (fun q => ?_) (fun q => ?_)
      · have h := ht q
        refine am_Wrun 4 (ps := []) (pc' := 150) (lv' := [(6, .inl (0)), (5, .inl (0)), (0, .inr (.inl (some 0))), (1, .inl (v1)), (2, .inl (v2)), (3, .inl (v3)), (4, .inl (v4))]) (st' := []) (M' := M) rfl trivial ?_
        refine am_W_sub [2, 3, 4, 5, 6, 1, 0] rfl ?_
        obtain ⟨n150, h⟩ := h
        exact tw_L_point_150 hX n150 v1 v2 v3 v4 0 0 M h
      · have h := hf q
        refine am_Wrun 6 (ps := []) (pc' := 150) (lv' := [(6, .inl (0)), (5, .inl (1)), (0, .inr (.inl (some 0))), (1, .inl (v1)), (2, .inl (v2)), (3, .inl (v3)), (4, .inl (v4))]) (st' := []) (M' := M) rfl trivial ?_
        refine am_W_sub [2, 3, 4, 5, 6, 1, 0] rfl ?_
        obtain ⟨n150, h⟩ := h
        exact tw_L_point_150 hX n150 v1 v2 v3 v4 1 0 M h
set_option maxRecDepth 20000 in
theorem tj_L_point_84 {Q : Int → am_M → Prop} {X : am_X} {QX : am_X} (hX : ∀ E M, X E M → QX E M) (v1 : Int) (v2 : Int) (v3 : Int) (v4 : Int) (M : am_M) (h : wj_L_point_84 Q X v1 v2 v3 v4 M) : am_W (am_CC 7) dt_L_point 7 0 none (am_QI Q) QX (0, 84, [(0, .inr (.inl (some 0))), (1, .inl (v1)), (2, .inl (v2)), (3, .inl (v3)), (4, .inl (v4))], [], M) := by
  refine am_Wrun 1 (ps := []) (pc' := 85) (lv' := [(0, .inr (.inl (some 0))), (1, .inl (v1)), (2, .inl (v2)), (3, .inl (v3)), (4, .inl (v4))]) (st' := [.inl (0)]) (M' := M) rfl trivial ?_
  refine am_W_sub [0, 1, 2, 3, 4] rfl ?_
  exact tj_L_point_85 hX v1 v2 v3 v4 0 M h
set_option maxRecDepth 20000 in
theorem tj_L_point_15 {Q : Int → am_M → Prop} {X : am_X} {QX : am_X} (hX : ∀ E M, X E M → QX E M) (v1 : Int) (s0 : Int) (M : am_M) (h : wj_L_point_15 Q X v1 s0 M) : am_W (am_CC 7) dt_L_point 7 0 none (am_QI Q) QX (0, 15, [(0, .inr (.inl (some 0))), (1, .inl (v1))], [.inl (s0)], M) := by
  refine am_Wrun 4 (ps := []) (pc' := 19) (lv' := [(2, .inl (s0)), (0, .inr (.inl (some 0))), (1, .inl (v1))]) (st' := [.inl (5), .inl (v1), .inr (.inl (some 0))]) (M' := M) rfl trivial ?_
  refine am_WcallV (y := 66) (n := 3) (a := 0) (f := 22) (as := [.inl (v1), .inl (5)]) (st' := []) rfl rfl rfl rfl rfl rfl rfl rfl rfl rfl (Nat.zero_le _) rfl (am_CC_le (Nat.le_of_ble_eq_true rfl) (tm_X5_point h)) (fun r M4 q => ?_) (fun E M q => hX _ _ q)
  obtain ⟨x3, rfl, h⟩ := q
  refine am_Wrun 4 (ps := [-128 ≤ (6 : Int) ∧ (6 : Int) ≤ 127]) (pc' := 27) (lv' := [(3, .inl (x3)), (2, .inl (s0)), (0, .inr (.inl (some 0))), (1, .inl (v1))]) (st' := [.inl (6), .inl (v1), .inr (.inl (some 0))]) (M' := M4) rfl ⟨⟨by decide, by decide⟩, trivial⟩ ?_
  refine am_WcallV (y := 66) (n := 3) (a := 0) (f := 30) (as := [.inl (v1), .inl (6)]) (st' := []) rfl rfl rfl rfl rfl rfl rfl rfl rfl rfl (Nat.zero_le _) rfl (am_CC_le (Nat.le_of_ble_eq_true rfl) (tm_X5_point h)) (fun r M6 q => ?_) (fun E M q => hX _ _ q)
  obtain ⟨x5, rfl, h⟩ := q
  refine am_Wrun 2 (ps := []) (pc' := 33) (lv' := [(4, .inl (x5)), (3, .inl (x3)), (2, .inl (s0)), (0, .inr (.inl (some 0))), (1, .inl (v1))]) (st' := [.inl (x3)]) (M' := M6) rfl trivial ?_
  obtain ⟨b0, ht, hf⟩ := h
  refine am_Wbr (P := [am_rg x3]) (c := 0 ≤ x3) (t := 50) (f := 36) (st' := []) rfl rfl ⟨b0, trivial⟩ rfl (fun q => ?_) (fun q => ?_)
  · have h := ht q
    refine am_Wrun 2 (ps := []) (pc' := 52) (lv' := [(4, .inl (x5)), (3, .inl (x3)), (2, .inl (s0)), (0, .inr (.inl (some 0))), (1, .inl (v1))]) (st' := [.inl (v1), .inl (x3)]) (M' := M6) rfl trivial ?_
    obtain ⟨b0, b1, ht, hf⟩ := h
    refine am_Wbr (P := [am_rg x3, am_rg v1]) (c := v1 ≤ x3) (t := 84) (f := 55) (st' := []) rfl rfl ⟨b0, b1, trivial⟩ rfl (fun q => ?_) (fun q => ?_)
    · have h := ht q
      refine am_W_sub [3, 4, 2, 1, 0] rfl ?_
      exact tj_L_point_84 hX v1 s0 x3 x5 M6 h
    · have h := hf q
      refine am_Wrun 3 (ps := []) (pc' := 58) (lv' := [(4, .inl (x5)), (3, .inl (x3)), (2, .inl (s0)), (0, .inr (.inl (some 0))), (1, .inl (v1))]) (st' := [.inl (2), .inl (x3), .inr (.inl (some 0))]) (M' := M6) rfl trivial ?_
      refine am_WcallV (y := 66) (n := 3) (a := 0) (f := 61) (as := [.inl (x3), .inl (2)]) (st' := []) rfl rfl rfl rfl rfl rfl rfl rfl rfl rfl (Nat.zero_le _) rfl (am_CC_le (Nat.le_of_ble_eq_true rfl) (tm_X5_point h)) (fun r M56 q => ?_) (fun E M q => hX _ _ q)
      obtain ⟨x55, rfl, h⟩ := q
      refine am_Wrun 1 (ps := []) (pc' := 62) (lv' := [(4, .inl (x5)), (3, .inl (x3)), (2, .inl (s0)), (0, .inr (.inl (some 0))), (1, .inl (v1))]) (st' := [.inl (1), .inl (x55)]) (M' := M56) rfl trivial ?_
      obtain ⟨b0, ht, hf⟩ := h
      refine am_Wbr (P := [am_rg x55, am_rg 1]) (c := ¬ x55 = 1) (t := 84) (f := 65) (st' := []) rfl rfl ⟨b0, (am_rgd rfl), trivial⟩ rfl (fun q => ?_) (fun q => ?_)
      · have h := ht q
        refine am_W_sub [3, 4, 2, 1, 0] rfl ?_
        exact tj_L_point_84 hX v1 s0 x3 x5 M56 h
      · have h := hf q
        refine am_Wrun 3 (ps := []) (pc' := 68) (lv' := [(4, .inl (x5)), (3, .inl (x3)), (2, .inl (s0)), (0, .inr (.inl (some 0))), (1, .inl (v1))]) (st' := [.inl (4), .inl (x3), .inr (.inl (some 0))]) (M' := M56) rfl trivial ?_
        refine am_WcallV (y := 66) (n := 3) (a := 0) (f := 71) (as := [.inl (x3), .inl (4)]) (st' := []) rfl rfl rfl rfl rfl rfl rfl rfl rfl rfl (Nat.zero_le _) rfl (am_CC_le (Nat.le_of_ble_eq_true rfl) (tm_X5_point h)) (fun r M58 q => ?_) (fun E M q => hX _ _ q)
        obtain ⟨x57, rfl, h⟩ := q
        refine am_Wrun 3 (ps := []) (pc' := 74) (lv' := [(4, .inl (x5)), (3, .inl (x3)), (2, .inl (s0)), (0, .inr (.inl (some 0))), (1, .inl (v1))]) (st' := [.inl (4), .inl (v1), .inr (.inl (some 0)), .inl (x57)]) (M' := M58) rfl trivial ?_
        refine am_WcallV (y := 66) (n := 3) (a := 0) (f := 77) (as := [.inl (v1), .inl (4)]) (st' := [.inl (x57)]) rfl rfl rfl rfl rfl rfl rfl rfl rfl rfl (Nat.zero_le _) rfl (am_CC_le (Nat.le_of_ble_eq_true rfl) (tm_X5_point h)) (fun r M60 q => ?_) (fun E M q => hX _ _ q)
        obtain ⟨x59, rfl, h⟩ := q
        obtain ⟨b0, b1, ht, hf⟩ := h
        refine am_Wbr (P := [am_rg x57, am_rg x59]) (c := ¬ x57 = x59) (t := 84) (f := 80) (st' := []) rfl rfl ⟨b0, b1, trivial⟩ rfl (fun q => ?_) (fun q => ?_)
        · have h := ht q
          refine am_W_sub [3, 4, 2, 1, 0] rfl ?_
          exact tj_L_point_84 hX v1 s0 x3 x5 M60 h
        · have h := hf q
          refine am_Wrun 2 (ps := []) (pc' := 85) (lv' := [(4, .inl (x5)), (3, .inl (x3)), (2, .inl (s0)), (0, .inr (.inl (some 0))), (1, .inl (v1))]) (st' := [.inl (1)]) (M' := M60) rfl trivial ?_
          refine am_W_sub [3, 4, 2, 1, 0] rfl ?_
          exact tj_L_point_85 hX v1 s0 x3 x5 1 M60 h
  · have h := hf q
    refine am_Wrun 2 (ps := []) (pc' := 39) (lv' := [(4, .inl (x5)), (3, .inl (x3)), (2, .inl (s0)), (0, .inr (.inl (some 0))), (1, .inl (v1))]) (st' := [.inl ((-1000000)), .inl (x3)]) (M' := M6) rfl trivial ?_
    obtain ⟨b0, ht, hf⟩ := h
    refine am_Wbr (P := [am_rg x3, am_rg (-1000000)]) (c := ¬ x3 = (-1000000)) (t := 46) (f := 42) (st' := []) rfl rfl ⟨b0, (am_rgd rfl), trivial⟩ rfl (fun q => ?_) (fun q => ?_)
    · have h := ht q
      refine am_Wrun 2 (ps := []) (pc' := 85) (lv' := [(4, .inl (x5)), (3, .inl (x3)), (2, .inl (s0)), (0, .inr (.inl (some 0))), (1, .inl (v1))]) (st' := [.inl (0)]) (M' := M6) rfl trivial ?_
      refine am_W_sub [3, 4, 2, 1, 0] rfl ?_
      exact tj_L_point_85 hX v1 s0 x3 x5 0 M6 h
    · have h := hf q
      refine am_Wrun 2 (ps := []) (pc' := 85) (lv' := [(4, .inl (x5)), (3, .inl (x3)), (2, .inl (s0)), (0, .inr (.inl (some 0))), (1, .inl (v1))]) (st' := [.inl (1)]) (M' := M6) rfl trivial ?_
      refine am_W_sub [3, 4, 2, 1, 0] rfl ?_
      exact tj_L_point_85 hX v1 s0 x3 x5 1 M6 h
set_option maxRecDepth 20000 in
theorem tm_L_point {a1 : Int} {M : am_M} {Q : Int → am_M → Prop} {X : am_X} (h : wp_L_point a1 M Q X) : am_CC 8 71 [.inr (.inl (some 0)), .inl (a1)] M (am_QI Q) X := by
  refine ⟨Nat.le_of_ble_eq_true rfl, ?_⟩
  show am_W (am_CC 7) dt_L_point 7 0 none (am_QI Q) (am_qx 71 X) (0, 0, [(0, .inr (.inl (some 0))), (1, .inl (a1))], [], M)
  have hX : ∀ E M, X E M → am_qx 71 X E M := fun E M q => ⟨⟨rfl, by decide⟩, q⟩
  refine am_Wrun 3 (ps := []) (pc' := 3) (lv' := [(0, .inr (.inl (some 0))), (1, .inl (a1))]) (st' := [.inl (2), .inl (a1), .inr (.inl (some 0))]) (M' := M) rfl trivial ?_
  refine am_WcallV (y := 66) (n := 3) (a := 0) (f := 6) (as := [.inl (a1), .inl (2)]) (st' := []) rfl rfl rfl rfl rfl rfl rfl rfl rfl rfl (Nat.zero_le _) rfl (am_CC_le (Nat.le_of_ble_eq_true rfl) (tm_X5_point h)) (fun r M2 q => ?_) (fun E M q => hX _ _ q)
  obtain ⟨x1, rfl, h⟩ := q
  refine am_Wrun 1 (ps := []) (pc' := 7) (lv' := [(0, .inr (.inl (some 0))), (1, .inl (a1))]) (st' := [.inl (1), .inl (x1)]) (M' := M2) rfl trivial ?_
  obtain ⟨b0, ht, hf⟩ := h
  refine am_Wbr (P := [am_rg x1, am_rg 1]) (c := ¬ x1 = 1) (t := 14) (f := 10) (st' := []) rfl rfl ⟨b0, (am_rgd rfl), trivial⟩ rfl (fun q => ?_) (fun q => ?_)
  · have h := ht q
    refine am_Wrun 1 (ps := []) (pc' := 15) (lv' := [(0, .inr (.inl (some 0))), (1, .inl (a1))]) (st' := [.inl (0)]) (M' := M2) rfl trivial ?_
    refine am_W_sub [0, 1] rfl ?_
    exact tj_L_point_15 hX a1 0 M2 h
  · have h := hf q
    refine am_Wrun 2 (ps := []) (pc' := 15) (lv' := [(0, .inr (.inl (some 0))), (1, .inl (a1))]) (st' := [.inl (1)]) (M' := M2) rfl trivial ?_
    refine am_W_sub [0, 1] rfl ?_
    exact tj_L_point_15 hX a1 1 M2 h
abbrev dt_X5_droppedShare : am_D := (tk_X5_droppedShare, 5, 1, some .double, tb_hn 70)
def wp_X5_droppedShare (M : am_M) (Q : UInt64 → am_M → Prop) : Prop := (am_rg (M 1 7)) ∧ (¬ (M 1 7) = 0 → wp_X2_keptPoints M (fun x1 M2 => (vf_n64 (FP.ddiv (FP.i2d (Int32.ofInt ((M 1 7) - x1))) (FP.i2d (Int32.ofInt (M2 1 7))))) ∧ (Q (FP.ddiv (FP.i2d (Int32.ofInt ((M 1 7) - x1))) (FP.i2d (Int32.ofInt (M2 1 7)))) M2))) ∧ (¬ (¬ (M 1 7) = 0) → Q FP.dconst0 M)
set_option maxRecDepth 20000 in
theorem tm_X5_droppedShare {M : am_M} {Q : UInt64 → am_M → Prop} (h : wp_X5_droppedShare M Q) : am_CC 2 70 [.inr (.inl (some 0))] M (am_QD Q) (fun _ _ => False) := by
  refine ⟨Nat.le_of_ble_eq_true rfl, ?_⟩
  show am_W (am_CC 1) dt_X5_droppedShare 1 0 none (am_QD Q) (am_qx 70 (fun _ _ => False)) (0, 0, [(0, .inr (.inl (some 0)))], [], M)
  refine am_Wrun 3 (ps := []) (pc' := 7) (lv' := [(0, .inr (.inl (some 0)))]) (st' := [.inl (M 1 7)]) (M' := M) rfl trivial ?_
  obtain ⟨b0, ht, hf⟩ := h
  refine am_Wbr (P := [am_rg (M 1 7)]) (c := ¬ (M 1 7) = 0) (t := 12) (f := 10) (st' := []) rfl rfl ⟨b0, trivial⟩ rfl (fun q => ?_) (fun q => ?_)
  · have h := ht q
    refine am_Wrun 5 (ps := []) (pc' := 23) (lv' := [(0, .inr (.inl (some 0)))]) (st' := [.inr (.inl (some 1)), .inl (M 1 7)]) (M' := M) rfl trivial ?_
    refine am_WcallV (y := 5) (n := 1) (a := 1) (f := 26) (as := []) (st' := [.inl (M 1 7)]) rfl rfl rfl rfl rfl rfl rfl rfl rfl rfl (Nat.zero_le _) rfl (am_CC_le (Nat.le_of_ble_eq_true rfl) (tm_X2_keptPoints h)) (fun r M2 q => ?_) (fun _ _ q => q.elim)
    obtain ⟨x1, rfl, h⟩ := q
    obtain ⟨c0_0, h⟩ := h
    refine am_Wrun 7 (ps := [vf_n64 (FP.ddiv (FP.i2d (Int32.ofInt ((M 1 7) - x1))) (FP.i2d (Int32.ofInt (M2 1 7))))]) (pc' := 37) (lv' := [(0, .inr (.inl (some 0)))]) (st' := [.inr (.inr (.inr (FP.ddiv (FP.i2d (Int32.ofInt ((M 1 7) - x1))) (FP.i2d (Int32.ofInt (M2 1 7))))))]) (M' := M2) rfl ⟨c0_0, trivial⟩ ?_
    exact am_Wretd rfl rfl h
  · have h := hf q
    refine am_Wrun 1 (ps := []) (pc' := 11) (lv' := [(0, .inr (.inl (some 0)))]) (st' := [.inr (.inr (.inr (FP.dconst0)))]) (M' := M) rfl trivial ?_
    exact am_Wretd rfl rfl h
abbrev dt_L_sound : am_D := (tk_L_sound, 9, 3, some .boolean, tb_hn 64)
def wj_L_sound_49 (Q : Int → am_M → Prop) (X : am_X) (v1 : Int) (M : am_M) : Prop := wp_X5_cheapest 0 M (fun x5 M6 => (am_rg v1) ∧ (v1 = 0 → Q 0 M6) ∧ (¬ v1 = 0 → (am_rg x5) ∧ (0 ≤ x5 → wp_X5_whyNot x5 M6 (fun x7 M8 => (am_rg x7) ∧ (¬ x7 = 0 → Q 0 M8) ∧ (¬ (¬ x7 = 0) → wp_X5_cheapest 1 M8 (fun x9 M10 => wp_X5_setting 0 M10 (fun x11 M12 => (am_rg x9) ∧ (am_rg x11) ∧ (x11 < x9 → Q 0 M12) ∧ (¬ x11 < x9 → Q 1 M12)) X) X)) X) ∧ (¬ 0 ≤ x5 → (am_rg x5) ∧ (¬ x5 = (-1000000) → Q 0 M6) ∧ (¬ (¬ x5 = (-1000000)) → Q 1 M6)))) X
def wl_L_sound_24 (Q : Int → am_M → Prop) (X : am_X) : Nat → Int → Int → am_M → Prop
  | 0, _, _, _ => False
  | n + 1, v1, v2, M => wp_X5_count 0 M (fun x3 M4 => (am_rg v2) ∧ (am_rg x3) ∧ (x3 ≤ v2 → wj_L_sound_49 Q X v1 M4) ∧ (¬ x3 ≤ v2 → (am_rg v1) ∧ (v1 = 0 → wj_L_sound_49 Q X v1 M4) ∧ (¬ v1 = 0 → wp_L_point v2 M4 (fun x13 M14 => wl_L_sound_24 Q X n x13 (v2 + 1) M14) X))) X
def wp_L_sound (M : am_M) (Q : Int → am_M → Prop) (X : am_X) : Prop := wp_L_stretches M (fun x1 M2 => (am_rg x1) ∧ (x1 = 0 → ∃ e24, wl_L_sound_24 Q X e24 0 0 M2) ∧ (¬ x1 = 0 → wp_X5_droppedShare M2 (fun x15 M16 => (am_rg ((Op.cmpValue (FP.dcmp x15 FP.dconst1) .g).toInt)) ∧ (0 < ((Op.cmpValue (FP.dcmp x15 FP.dconst1) .g).toInt) → ∃ e24, wl_L_sound_24 Q X e24 0 0 M16) ∧ (¬ 0 < ((Op.cmpValue (FP.dcmp x15 FP.dconst1) .g).toInt) → ∃ e24, wl_L_sound_24 Q X e24 1 0 M16)))) X
set_option maxRecDepth 20000 in
theorem tj_L_sound_49 {Q : Int → am_M → Prop} {X : am_X} {QX : am_X} (hX : ∀ E M, X E M → QX E M) (v1 : Int) (M : am_M) (h : wj_L_sound_49 Q X v1 M) : am_W (am_CC 8) dt_L_sound 8 0 none (am_QI Q) QX (0, 49, [(0, .inr (.inl (some 0))), (1, .inl (v1))], [], M) := by
  refine am_Wrun 2 (ps := []) (pc' := 51) (lv' := [(0, .inr (.inl (some 0))), (1, .inl (v1))]) (st' := [.inl (0), .inr (.inl (some 0))]) (M' := M) rfl trivial ?_
  refine am_WcallV (y := 76) (n := 2) (a := 0) (f := 54) (as := [.inl (0)]) (st' := []) rfl rfl rfl rfl rfl rfl rfl rfl rfl rfl (Nat.zero_le _) rfl (am_CC_le (Nat.le_of_ble_eq_true rfl) (tm_X5_cheapest h)) (fun r M6 q => ?_) (fun E M q => hX _ _ q)
  obtain ⟨x5, rfl, h⟩ := q
  refine am_Wrun 2 (ps := []) (pc' := 56) (lv' := [(2, .inl (x5)), (0, .inr (.inl (some 0))), (1, .inl (v1))]) (st' := [.inl (v1)]) (M' := M6) rfl trivial ?_
  obtain ⟨b0, ht, hf⟩ := h
  refine am_Wbr (P := [am_rg v1]) (c := v1 = 0) (t := 97) (f := 59) (st' := []) rfl rfl ⟨b0, trivial⟩ rfl (fun q => ?_) (fun q => ?_)
  · have h := ht q
    refine am_Wrun 1 (ps := []) (pc' := 98) (lv' := [(2, .inl (x5)), (0, .inr (.inl (some 0))), (1, .inl (v1))]) (st' := [.inl (0)]) (M' := M6) rfl trivial ?_
    exact am_Wretz rfl rfl (Or.inl rfl) h
  · have h := hf q
    refine am_Wrun 1 (ps := []) (pc' := 60) (lv' := [(2, .inl (x5)), (0, .inr (.inl (some 0))), (1, .inl (v1))]) (st' := [.inl (x5)]) (M' := M6) rfl trivial ?_
    obtain ⟨b0, ht, hf⟩ := h
    refine am_Wbr (P := [am_rg x5]) (c := 0 ≤ x5) (t := 72) (f := 63) (st' := []) rfl rfl ⟨b0, trivial⟩ rfl (fun q => ?_) (fun q => ?_)
    · have h := ht q
      refine am_Wrun 2 (ps := []) (pc' := 74) (lv' := [(2, .inl (x5)), (0, .inr (.inl (some 0))), (1, .inl (v1))]) (st' := [.inl (x5), .inr (.inl (some 0))]) (M' := M6) rfl trivial ?_
      refine am_WcallV (y := 78) (n := 2) (a := 0) (f := 77) (as := [.inl (x5)]) (st' := []) rfl rfl rfl rfl rfl rfl rfl rfl rfl rfl (Nat.zero_le _) rfl (am_CC_le (Nat.le_of_ble_eq_true rfl) (tm_X5_whyNot h)) (fun r M8 q => ?_) (fun E M q => hX _ _ q)
      obtain ⟨x7, rfl, h⟩ := q
      obtain ⟨b0, ht, hf⟩ := h
      refine am_Wbr (P := [am_rg x7]) (c := ¬ x7 = 0) (t := 97) (f := 80) (st' := []) rfl rfl ⟨b0, trivial⟩ rfl (fun q => ?_) (fun q => ?_)
      · have h := ht q
        refine am_Wrun 1 (ps := []) (pc' := 98) (lv' := [(2, .inl (x5)), (0, .inr (.inl (some 0))), (1, .inl (v1))]) (st' := [.inl (0)]) (M' := M8) rfl trivial ?_
        exact am_Wretz rfl rfl (Or.inl rfl) h
      · have h := hf q
        refine am_Wrun 2 (ps := []) (pc' := 82) (lv' := [(2, .inl (x5)), (0, .inr (.inl (some 0))), (1, .inl (v1))]) (st' := [.inl (1), .inr (.inl (some 0))]) (M' := M8) rfl trivial ?_
        refine am_WcallV (y := 76) (n := 2) (a := 0) (f := 85) (as := [.inl (1)]) (st' := []) rfl rfl rfl rfl rfl rfl rfl rfl rfl rfl (Nat.zero_le _) rfl (am_CC_le (Nat.le_of_ble_eq_true rfl) (tm_X5_cheapest h)) (fun r M10 q => ?_) (fun E M q => hX _ _ q)
        obtain ⟨x9, rfl, h⟩ := q
        refine am_Wrun 2 (ps := []) (pc' := 87) (lv' := [(2, .inl (x5)), (0, .inr (.inl (some 0))), (1, .inl (v1))]) (st' := [.inl (0), .inr (.inl (some 0)), .inl (x9)]) (M' := M10) rfl trivial ?_
        refine am_WcallV (y := 61) (n := 2) (a := 0) (f := 90) (as := [.inl (0)]) (st' := [.inl (x9)]) rfl rfl rfl rfl rfl rfl rfl rfl rfl rfl (Nat.zero_le _) rfl (am_CC_le (Nat.le_of_ble_eq_true rfl) (tm_X5_setting h)) (fun r M12 q => ?_) (fun E M q => hX _ _ q)
        obtain ⟨x11, rfl, h⟩ := q
        obtain ⟨b0, b1, ht, hf⟩ := h
        refine am_Wbr (P := [am_rg x9, am_rg x11]) (c := x11 < x9) (t := 97) (f := 93) (st' := []) rfl rfl ⟨b0, b1, trivial⟩ rfl (fun q => ?_) (fun q => ?_)
        · have h := ht q
          refine am_Wrun 1 (ps := []) (pc' := 98) (lv' := [(2, .inl (x5)), (0, .inr (.inl (some 0))), (1, .inl (v1))]) (st' := [.inl (0)]) (M' := M12) rfl trivial ?_
          exact am_Wretz rfl rfl (Or.inl rfl) h
        · have h := hf q
          refine am_Wrun 2 (ps := []) (pc' := 98) (lv' := [(2, .inl (x5)), (0, .inr (.inl (some 0))), (1, .inl (v1))]) (st' := [.inl (1)]) (M' := M12) rfl trivial ?_
          exact am_Wretz rfl rfl (Or.inr rfl) h
    · have h := hf q
      refine am_Wrun 2 (ps := []) (pc' := 66) (lv' := [(2, .inl (x5)), (0, .inr (.inl (some 0))), (1, .inl (v1))]) (st' := [.inl ((-1000000)), .inl (x5)]) (M' := M6) rfl trivial ?_
      obtain ⟨b0, ht, hf⟩ := h
      refine am_Wbr (P := [am_rg x5, am_rg (-1000000)]) (c := ¬ x5 = (-1000000)) (t := 97) (f := 69) (st' := []) rfl rfl ⟨b0, (am_rgd rfl), trivial⟩ rfl (fun q => ?_) (fun q => ?_)
      · have h := ht q
        refine am_Wrun 1 (ps := []) (pc' := 98) (lv' := [(2, .inl (x5)), (0, .inr (.inl (some 0))), (1, .inl (v1))]) (st' := [.inl (0)]) (M' := M6) rfl trivial ?_
        exact am_Wretz rfl rfl (Or.inl rfl) h
      · have h := hf q
        refine am_Wrun 3 (ps := []) (pc' := 98) (lv' := [(2, .inl (x5)), (0, .inr (.inl (some 0))), (1, .inl (v1))]) (st' := [.inl (1)]) (M' := M6) rfl trivial ?_
        exact am_Wretz rfl rfl (Or.inr rfl) h
set_option maxRecDepth 20000 in
theorem tw_L_sound_24 {Q : Int → am_M → Prop} {X : am_X} {QX : am_X} (hX : ∀ E M, X E M → QX E M) : ∀ (n : Nat) (v1 : Int) (v2 : Int) (M : am_M), wl_L_sound_24 Q X n v1 v2 M → am_W (am_CC 8) dt_L_sound 8 0 none (am_QI Q) QX (0, 24, [(0, .inr (.inl (some 0))), (1, .inl (v1)), (2, .inl (v2))], [], M)
  | 0, _, _, _, h => h.elim
  | n + 1, v1, v2, M, h => by
    refine am_Wrun 3 (ps := []) (pc' := 27) (lv' := [(0, .inr (.inl (some 0))), (1, .inl (v1)), (2, .inl (v2))]) (st' := [.inl (0), .inr (.inl (some 0)), .inl (v2)]) (M' := M) rfl trivial ?_
    refine am_WcallV (y := 51) (n := 2) (a := 0) (f := 30) (as := [.inl (0)]) (st' := [.inl (v2)]) rfl rfl rfl rfl rfl rfl rfl rfl rfl rfl (Nat.zero_le _) rfl (am_CC_le (Nat.le_of_ble_eq_true rfl) (tm_X5_count h)) (fun r M4 q => ?_) (fun E M q => hX _ _ q)
    obtain ⟨x3, rfl, h⟩ := q
    obtain ⟨b0, b1, ht, hf⟩ := h
    refine am_Wbr (P := [am_rg v2, am_rg x3]) (c := x3 ≤ v2) (t := 49) (f := 33) (st' := []) rfl rfl ⟨b0, b1, trivial⟩ rfl (fun q => ?_) (fun q => ?_)
    · have h := ht q
      refine am_W_sub [0, 1] rfl ?_
      exact tj_L_sound_49 hX v1 M4 h
    · have h := hf q
      refine am_Wrun 1 (ps := []) (pc' := 34) (lv' := [(0, .inr (.inl (some 0))), (1, .inl (v1)), (2, .inl (v2))]) (st' := [.inl (v1)]) (M' := M4) rfl trivial ?_
      obtain ⟨b0, ht, hf⟩ := h
      refine am_Wbr (P := [am_rg v1]) (c := v1 = 0) (t := 49) (f := 37) (st' := []) rfl rfl ⟨b0, trivial⟩ rfl (fun q => ?_) (fun q => ?_)
      · have h := ht q
        refine am_W_sub [0, 1] rfl ?_
        exact tj_L_sound_49 hX v1 M4 h
      · have h := hf q
        refine am_Wrun 2 (ps := []) (pc' := 39) (lv' := [(0, .inr (.inl (some 0))), (1, .inl (v1)), (2, .inl (v2))]) (st' := [.inl (v2), .inr (.inl (some 0))]) (M' := M4) rfl trivial ?_
        refine am_WcallS (y := 71) (n := 2) (f := 42) (co := 0) (as := [.inr (.inl (some 0)), .inl (v2)]) (st' := []) rfl rfl rfl rfl rfl rfl rfl rfl rfl (Nat.zero_le _) rfl (am_CC_le (Nat.le_of_ble_eq_true rfl) (tm_L_point h)) (fun r M14 q => ?_) (fun E M q => hX _ _ q)
        obtain ⟨x13, rfl, h⟩ := q
        refine am_Wrun 3 (ps := []) (pc' := 24) (lv' := [(2, .inl (v2 + 1)), (1, .inl (x13)), (0, .inr (.inl (some 0)))]) (st' := []) (M' := M14) rfl trivial ?_
        refine am_W_sub [2, 1, 0] rfl ?_
        exact tw_L_sound_24 hX n x13 (v2 + 1) M14 h
set_option maxRecDepth 20000 in
theorem tm_L_sound {M : am_M} {Q : Int → am_M → Prop} {X : am_X} (h : wp_L_sound M Q X) : am_CC 9 64 [.inr (.inl (some 0))] M (am_QI Q) X := by
  refine ⟨Nat.le_of_ble_eq_true rfl, ?_⟩
  show am_W (am_CC 8) dt_L_sound 8 0 none (am_QI Q) (am_qx 64 X) (0, 0, [(0, .inr (.inl (some 0)))], [], M)
  have hX : ∀ E M, X E M → am_qx 64 X E M := fun E M q => ⟨⟨rfl, by decide⟩, q⟩
  refine am_Wrun 1 (ps := []) (pc' := 1) (lv' := [(0, .inr (.inl (some 0)))]) (st' := [.inr (.inl (some 0))]) (M' := M) rfl trivial ?_
  refine am_WcallS (y := 65) (n := 1) (f := 4) (co := 0) (as := [.inr (.inl (some 0))]) (st' := []) rfl rfl rfl rfl rfl rfl rfl rfl rfl (Nat.zero_le _) rfl (am_CC_le (Nat.le_of_ble_eq_true rfl) (tm_L_stretches h)) (fun r M2 q => ?_) (fun E M q => hX _ _ q)
  obtain ⟨x1, rfl, h⟩ := q
  obtain ⟨b0, ht, hf⟩ := h
  refine am_Wbr (P := [am_rg x1]) (c := x1 = 0) (t := 20) (f := 7) (st' := []) rfl rfl ⟨b0, trivial⟩ rfl (fun q => ?_) (fun q => ?_)
  · have h := ht q
    refine am_Wrun 4 (ps := []) (pc' := 24) (lv' := [(2, .inl (0)), (1, .inl (0)), (0, .inr (.inl (some 0)))]) (st' := []) (M' := M2) rfl trivial ?_
    refine am_W_sub [2, 1, 0] rfl ?_
    obtain ⟨n24, h⟩ := h
    exact tw_L_sound_24 hX n24 0 0 M2 h
  · have h := hf q
    refine am_Wrun 1 (ps := []) (pc' := 8) (lv' := [(0, .inr (.inl (some 0)))]) (st' := [.inr (.inl (some 0))]) (M' := M2) rfl trivial ?_
    refine am_WcallV (y := 70) (n := 1) (a := 0) (f := 11) (as := []) (st' := []) rfl rfl rfl rfl rfl rfl rfl rfl rfl rfl (Nat.zero_le _) rfl (am_CC_le (Nat.le_of_ble_eq_true rfl) (tm_X5_droppedShare h)) (fun r M16 q => ?_) (fun _ _ q => q.elim)
    obtain ⟨x15, rfl, h⟩ := q
    refine am_Wrun 2 (ps := []) (pc' := 13) (lv' := [(0, .inr (.inl (some 0)))]) (st' := [.inl ((Op.cmpValue (FP.dcmp x15 FP.dconst1) .g).toInt)]) (M' := M16) rfl trivial ?_
    obtain ⟨b0, ht, hf⟩ := h
    refine am_Wbr (P := [am_rg ((Op.cmpValue (FP.dcmp x15 FP.dconst1) .g).toInt)]) (c := 0 < ((Op.cmpValue (FP.dcmp x15 FP.dconst1) .g).toInt)) (t := 20) (f := 16) (st' := []) rfl rfl ⟨b0, trivial⟩ rfl (fun q => ?_) (fun q => ?_)
    · have h := ht q
      refine am_Wrun 4 (ps := []) (pc' := 24) (lv' := [(2, .inl (0)), (1, .inl (0)), (0, .inr (.inl (some 0)))]) (st' := []) (M' := M16) rfl trivial ?_
      refine am_W_sub [2, 1, 0] rfl ?_
      obtain ⟨n24, h⟩ := h
      exact tw_L_sound_24 hX n24 0 0 M16 h
    · have h := hf q
      refine am_Wrun 5 (ps := []) (pc' := 24) (lv' := [(2, .inl (0)), (1, .inl (1)), (0, .inr (.inl (some 0)))]) (st' := []) (M' := M16) rfl trivial ?_
      refine am_W_sub [2, 1, 0] rfl ?_
      obtain ⟨n24, h⟩ := h
      exact tw_L_sound_24 hX n24 1 0 M16 h
abbrev dt_J9_floorMod_7cf53 : am_D := (tk_J9_floorMod_7cf53, 7, 3, some .int, tb_hn 3)
def wp_J9_floorMod_7cf53 (a0 : Int) (a1 : Int) (M : am_M) (Q : Int → am_M → Prop) : Prop := (am_rg a0 ∧ am_rg a1 ∧ (0 : Int) < a1) ∧ ((am_rg ((Int32.ofInt a0 ^^^ Int32.ofInt a1).toInt)) ∧ (0 ≤ ((Int32.ofInt a0 ^^^ Int32.ofInt a1).toInt) → Q (Int.tmod a0 a1) M) ∧ (¬ 0 ≤ ((Int32.ofInt a0 ^^^ Int32.ofInt a1).toInt) → (am_rg (Int.tmod a0 a1)) ∧ ((Int.tmod a0 a1) = 0 → Q (Int.tmod a0 a1) M) ∧ (¬ (Int.tmod a0 a1) = 0 → Q ((Int.tmod a0 a1) + a1) M)))
set_option maxRecDepth 20000 in
theorem tm_J9_floorMod_7cf53 {a0 a1 : Int} {M : am_M} {Q : Int → am_M → Prop} (h : wp_J9_floorMod_7cf53 a0 a1 M Q) : am_CC 1 3 [.inl (a0), .inl (a1)] M (am_QI Q) (fun _ _ => False) := by
  refine ⟨Nat.le_of_ble_eq_true rfl, ?_⟩
  show am_W (am_CC 0) dt_J9_floorMod_7cf53 0 0 none (am_QI Q) (am_qx 3 (fun _ _ => False)) (0, 0, [(0, .inl (a0)), (1, .inl (a1))], [], M)
  obtain ⟨c0_0, h⟩ := h
  refine am_Wrun 7 (ps := [am_rg a0 ∧ am_rg a1 ∧ (0 : Int) < a1]) (pc' := 7) (lv' := [(2, .inl (Int.tmod a0 a1)), (0, .inl (a0)), (1, .inl (a1))]) (st' := [.inl ((Int32.ofInt a0 ^^^ Int32.ofInt a1).toInt)]) (M' := M) rfl ⟨c0_0, trivial⟩ ?_
  obtain ⟨b0, ht, hf⟩ := h
  refine am_Wbr (P := [am_rg ((Int32.ofInt a0 ^^^ Int32.ofInt a1).toInt)]) (c := 0 ≤ ((Int32.ofInt a0 ^^^ Int32.ofInt a1).toInt)) (t := 18) (f := 10) (st' := []) rfl rfl ⟨b0, trivial⟩ rfl (fun q => ?_) (fun q => ?_)
  · have h := ht q
    refine am_Wrun 1 (ps := []) (pc' := 19) (lv' := [(2, .inl (Int.tmod a0 a1)), (0, .inl (a0)), (1, .inl (a1))]) (st' := [.inl (Int.tmod a0 a1)]) (M' := M) rfl trivial ?_
    exact am_Wreti rfl rfl h
  · have h := hf q
    refine am_Wrun 1 (ps := []) (pc' := 11) (lv' := [(2, .inl (Int.tmod a0 a1)), (0, .inl (a0)), (1, .inl (a1))]) (st' := [.inl (Int.tmod a0 a1)]) (M' := M) rfl trivial ?_
    obtain ⟨b0, ht, hf⟩ := h
    refine am_Wbr (P := [am_rg (Int.tmod a0 a1)]) (c := (Int.tmod a0 a1) = 0) (t := 18) (f := 14) (st' := []) rfl rfl ⟨b0, trivial⟩ rfl (fun q => ?_) (fun q => ?_)
    · have h := ht q
      refine am_Wrun 1 (ps := []) (pc' := 19) (lv' := [(2, .inl (Int.tmod a0 a1)), (0, .inl (a0)), (1, .inl (a1))]) (st' := [.inl (Int.tmod a0 a1)]) (M' := M) rfl trivial ?_
      exact am_Wreti rfl rfl h
    · have h := hf q
      refine am_Wrun 3 (ps := []) (pc' := 17) (lv' := [(2, .inl (Int.tmod a0 a1)), (0, .inl (a0)), (1, .inl (a1))]) (st' := [.inl ((Int.tmod a0 a1) + a1)]) (M' := M) rfl trivial ?_
      exact am_Wreti rfl rfl h
abbrev dt_X0_rowAt : am_D := (tk_X0_rowAt, 0, 3, some (.object "OathDiary$State"), tb_hn 2)
def wp_X0_rowAt (a0 : Int) (M : am_M) (Q : Option Nat → am_M → Prop) : Prop := wp_J9_floorMod_7cf53 a0 6 M (fun x1 M2 => (am_rg x1) ∧ (x1 < 0 → Q none M2) ∧ (¬ x1 < 0 → (am_rg x1) ∧ (6 ≤ x1 → Q none M2) ∧ (¬ 6 ≤ x1 → (0 ≤ x1 ∧ x1 < 6) ∧ (x1 = 0 → Q (some 16) M2) ∧ (x1 = 1 → Q (some 24) M2) ∧ (x1 = 2 → Q (some 32) M2) ∧ (x1 = 3 → Q (some 40) M2) ∧ (x1 = 4 → Q (some 48) M2) ∧ (x1 = 5 → Q (some 56) M2))))
set_option maxRecDepth 20000 in
theorem tm_X0_rowAt {a0 : Int} {M : am_M} {Q : Option Nat → am_M → Prop} (h : wp_X0_rowAt a0 M Q) : am_CC 2 2 [.inr (.inl (some 14)), .inl (a0)] M (am_QR Q) (fun _ _ => False) := by
  refine ⟨Nat.le_of_ble_eq_true rfl, ?_⟩
  show am_W (am_CC 1) dt_X0_rowAt 1 0 none (am_QR Q) (am_qx 2 (fun _ _ => False)) (0, 0, [(0, .inr (.inl (some 14))), (1, .inl (a0))], [], M)
  refine am_Wrun 2 (ps := [-128 ≤ (6 : Int) ∧ (6 : Int) ≤ 127]) (pc' := 3) (lv' := [(0, .inr (.inl (some 14))), (1, .inl (a0))]) (st' := [.inl (6), .inl (a0)]) (M' := M) rfl ⟨⟨by decide, by decide⟩, trivial⟩ ?_
  refine am_WcallS (y := 3) (n := 2) (f := 6) (co := 0) (as := [.inl (a0), .inl (6)]) (st' := []) rfl rfl rfl rfl rfl rfl rfl rfl rfl (Nat.zero_le _) rfl (am_CC_le (Nat.le_of_ble_eq_true rfl) (tm_J9_floorMod_7cf53 h)) (fun r M2 q => ?_) (fun _ _ q => q.elim)
  obtain ⟨x1, rfl, h⟩ := q
  refine am_Wrun 2 (ps := []) (pc' := 8) (lv' := [(2, .inl (x1)), (0, .inr (.inl (some 14))), (1, .inl (a0))]) (st' := [.inl (x1)]) (M' := M2) rfl trivial ?_
  obtain ⟨b0, ht, hf⟩ := h
  refine am_Wbr (P := [am_rg x1]) (c := x1 < 0) (t := 29) (f := 11) (st' := []) rfl rfl ⟨b0, trivial⟩ rfl (fun q => ?_) (fun q => ?_)
  · have h := ht q
    refine am_Wrun 1 (ps := []) (pc' := 30) (lv' := [(2, .inl (x1)), (0, .inr (.inl (some 14))), (1, .inl (a0))]) (st' := [.inr (.inl none)]) (M' := M2) rfl trivial ?_
    exact am_Wreta rfl rfl h
  · have h := hf q
    refine am_Wrun 4 (ps := []) (pc' := 17) (lv' := [(2, .inl (x1)), (0, .inr (.inl (some 14))), (1, .inl (a0))]) (st' := [.inl (6), .inl (x1)]) (M' := M2) rfl trivial ?_
    obtain ⟨b0, ht, hf⟩ := h
    refine am_Wbr (P := [am_rg x1, am_rg 6]) (c := 6 ≤ x1) (t := 29) (f := 20) (st' := []) rfl rfl ⟨b0, (am_rgd rfl), trivial⟩ rfl (fun q => ?_) (fun q => ?_)
    · have h := ht q
      refine am_Wrun 1 (ps := []) (pc' := 30) (lv' := [(2, .inl (x1)), (0, .inr (.inl (some 14))), (1, .inl (a0))]) (st' := [.inr (.inl none)]) (M' := M2) rfl trivial ?_
      exact am_Wreta rfl rfl h
    · have h := hf q
      refine am_Wrun 3 (ps := []) (pc' := 25) (lv' := [(2, .inl (x1)), (0, .inr (.inl (some 14))), (1, .inl (a0))]) (st' := [.inl (x1), .inr (.inl (some 15))]) (M' := M2) rfl trivial ?_
      obtain ⟨c0, j0, j1, j2, j3, j4, j5⟩ := h
      refine am_Waald (f := 26) rfl rfl c0 rfl (fun j r e1 e2 => ?_)
      match j, e1, e2 with
      | 0, e1, e2 =>
        cases e1
        have h := j0 e2
        refine am_Wrun 1 (ps := []) (pc' := 30) (lv' := [(2, .inl (x1)), (0, .inr (.inl (some 14))), (1, .inl (a0))]) (st' := [.inr (.inl (some 16))]) (M' := M2) rfl trivial ?_
        exact am_Wreta rfl rfl h
      | 1, e1, e2 =>
        cases e1
        have h := j1 e2
        refine am_Wrun 1 (ps := []) (pc' := 30) (lv' := [(2, .inl (x1)), (0, .inr (.inl (some 14))), (1, .inl (a0))]) (st' := [.inr (.inl (some 24))]) (M' := M2) rfl trivial ?_
        exact am_Wreta rfl rfl h
      | 2, e1, e2 =>
        cases e1
        have h := j2 e2
        refine am_Wrun 1 (ps := []) (pc' := 30) (lv' := [(2, .inl (x1)), (0, .inr (.inl (some 14))), (1, .inl (a0))]) (st' := [.inr (.inl (some 32))]) (M' := M2) rfl trivial ?_
        exact am_Wreta rfl rfl h
      | 3, e1, e2 =>
        cases e1
        have h := j3 e2
        refine am_Wrun 1 (ps := []) (pc' := 30) (lv' := [(2, .inl (x1)), (0, .inr (.inl (some 14))), (1, .inl (a0))]) (st' := [.inr (.inl (some 40))]) (M' := M2) rfl trivial ?_
        exact am_Wreta rfl rfl h
      | 4, e1, e2 =>
        cases e1
        have h := j4 e2
        refine am_Wrun 1 (ps := []) (pc' := 30) (lv' := [(2, .inl (x1)), (0, .inr (.inl (some 14))), (1, .inl (a0))]) (st' := [.inr (.inl (some 48))]) (M' := M2) rfl trivial ?_
        exact am_Wreta rfl rfl h
      | 5, e1, e2 =>
        cases e1
        have h := j5 e2
        refine am_Wrun 1 (ps := []) (pc' := 30) (lv' := [(2, .inl (x1)), (0, .inr (.inl (some 14))), (1, .inl (a0))]) (st' := [.inr (.inl (some 56))]) (M' := M2) rfl trivial ?_
        exact am_Wreta rfl rfl h
      | n + 6, e1, _ => cases e1
abbrev dt_X2_copyFrom : am_D := (tk_X2_copyFrom, 2, 2, none, tb_hn 4)
def wp_X2_copyFrom_16_1 (M : am_M) (Q : am_M → Prop) : Prop := Q (am_up (am_up (am_up (am_up (am_cp (am_cp (am_cp (am_cp (am_cp (am_cp (am_cp M 2 17 60) 3 18 60) 4 19 60) 5 20 60) 6 21 3) 7 22 8) 8 23 8) 16 7 ((am_cp (am_cp (am_cp (am_cp (am_cp (am_cp (am_cp M 2 17 60) 3 18 60) 4 19 60) 5 20 60) 6 21 3) 7 22 8) 8 23 8) 1 7)) 16 8 ((am_up (am_cp (am_cp (am_cp (am_cp (am_cp (am_cp (am_cp M 2 17 60) 3 18 60) 4 19 60) 5 20 60) 6 21 3) 7 22 8) 8 23 8) 16 7 ((am_cp (am_cp (am_cp (am_cp (am_cp (am_cp (am_cp M 2 17 60) 3 18 60) 4 19 60) 5 20 60) 6 21 3) 7 22 8) 8 23 8) 1 7)) 1 8)) 16 9 ((am_up (am_up (am_cp (am_cp (am_cp (am_cp (am_cp (am_cp (am_cp M 2 17 60) 3 18 60) 4 19 60) 5 20 60) 6 21 3) 7 22 8) 8 23 8) 16 7 ((am_cp (am_cp (am_cp (am_cp (am_cp (am_cp (am_cp M 2 17 60) 3 18 60) 4 19 60) 5 20 60) 6 21 3) 7 22 8) 8 23 8) 1 7)) 16 8 ((am_up (am_cp (am_cp (am_cp (am_cp (am_cp (am_cp (am_cp M 2 17 60) 3 18 60) 4 19 60) 5 20 60) 6 21 3) 7 22 8) 8 23 8) 16 7 ((am_cp (am_cp (am_cp (am_cp (am_cp (am_cp (am_cp M 2 17 60) 3 18 60) 4 19 60) 5 20 60) 6 21 3) 7 22 8) 8 23 8) 1 7)) 1 8)) 1 9)) 16 10 ((am_up (am_up (am_up (am_cp (am_cp (am_cp (am_cp (am_cp (am_cp (am_cp M 2 17 60) 3 18 60) 4 19 60) 5 20 60) 6 21 3) 7 22 8) 8 23 8) 16 7 ((am_cp (am_cp (am_cp (am_cp (am_cp (am_cp (am_cp M 2 17 60) 3 18 60) 4 19 60) 5 20 60) 6 21 3) 7 22 8) 8 23 8) 1 7)) 16 8 ((am_up (am_cp (am_cp (am_cp (am_cp (am_cp (am_cp (am_cp M 2 17 60) 3 18 60) 4 19 60) 5 20 60) 6 21 3) 7 22 8) 8 23 8) 16 7 ((am_cp (am_cp (am_cp (am_cp (am_cp (am_cp (am_cp M 2 17 60) 3 18 60) 4 19 60) 5 20 60) 6 21 3) 7 22 8) 8 23 8) 1 7)) 1 8)) 16 9 ((am_up (am_up (am_cp (am_cp (am_cp (am_cp (am_cp (am_cp (am_cp M 2 17 60) 3 18 60) 4 19 60) 5 20 60) 6 21 3) 7 22 8) 8 23 8) 16 7 ((am_cp (am_cp (am_cp (am_cp (am_cp (am_cp (am_cp M 2 17 60) 3 18 60) 4 19 60) 5 20 60) 6 21 3) 7 22 8) 8 23 8) 1 7)) 16 8 ((am_up (am_cp (am_cp (am_cp (am_cp (am_cp (am_cp (am_cp M 2 17 60) 3 18 60) 4 19 60) 5 20 60) 6 21 3) 7 22 8) 8 23 8) 16 7 ((am_cp (am_cp (am_cp (am_cp (am_cp (am_cp (am_cp M 2 17 60) 3 18 60) 4 19 60) 5 20 60) 6 21 3) 7 22 8) 8 23 8) 1 7)) 1 8)) 1 9)) 1 10))
set_option maxRecDepth 20000 in
theorem tm_X2_copyFrom_16_1 {M : am_M} {Q : am_M → Prop} (h : wp_X2_copyFrom_16_1 M Q) : am_CC 1 4 [.inr (.inl (some 16)), .inr (.inl (some 1))] M (am_QV Q) (fun _ _ => False) := by
  refine ⟨Nat.le_of_ble_eq_true rfl, ?_⟩
  show am_W (am_CC 0) dt_X2_copyFrom 0 0 none (am_QV Q) (am_qx 4 (fun _ _ => False)) (0, 0, [(0, .inr (.inl (some 16))), (1, .inr (.inl (some 1)))], [], M)
  refine am_Wrun 72 (ps := [-128 ≤ (60 : Int) ∧ (60 : Int) ≤ 127, (0 : Int) = 0 ∧ (0 : Int) = 0 ∧ (0 : Int) ≤ 60 ∧ (60 : Int) ≤ 60 ∧ (60 : Int) ≤ 60 ∧ am_cs [] ≤ 8, -128 ≤ (60 : Int) ∧ (60 : Int) ≤ 127, (0 : Int) = 0 ∧ (0 : Int) = 0 ∧ (0 : Int) ≤ 60 ∧ (60 : Int) ≤ 60 ∧ (60 : Int) ≤ 60 ∧ am_cs [] ≤ 8, -128 ≤ (60 : Int) ∧ (60 : Int) ≤ 127, (0 : Int) = 0 ∧ (0 : Int) = 0 ∧ (0 : Int) ≤ 60 ∧ (60 : Int) ≤ 60 ∧ (60 : Int) ≤ 60 ∧ am_cs [] ≤ 8, -128 ≤ (60 : Int) ∧ (60 : Int) ≤ 127, (0 : Int) = 0 ∧ (0 : Int) = 0 ∧ (0 : Int) ≤ 60 ∧ (60 : Int) ≤ 60 ∧ (60 : Int) ≤ 60 ∧ am_cs [] ≤ 8, (0 : Int) = 0 ∧ (0 : Int) = 0 ∧ (0 : Int) ≤ 3 ∧ (3 : Int) ≤ 3 ∧ (3 : Int) ≤ 3 ∧ am_cs [] ≤ 8, -128 ≤ (8 : Int) ∧ (8 : Int) ≤ 127, (0 : Int) = 0 ∧ (0 : Int) = 0 ∧ (0 : Int) ≤ 8 ∧ (8 : Int) ≤ 8 ∧ (8 : Int) ≤ 8 ∧ am_cs [] ≤ 8, -128 ≤ (8 : Int) ∧ (8 : Int) ≤ 127, (0 : Int) = 0 ∧ (0 : Int) = 0 ∧ (0 : Int) ≤ 8 ∧ (8 : Int) ≤ 8 ∧ (8 : Int) ≤ 8 ∧ am_cs [] ≤ 8]) (pc' := 136) (lv' := [(0, .inr (.inl (some 16))), (1, .inr (.inl (some 1)))]) (st' := []) (M' := (am_up (am_up (am_up (am_up (am_cp (am_cp (am_cp (am_cp (am_cp (am_cp (am_cp M 2 17 60) 3 18 60) 4 19 60) 5 20 60) 6 21 3) 7 22 8) 8 23 8) 16 7 ((am_cp (am_cp (am_cp (am_cp (am_cp (am_cp (am_cp M 2 17 60) 3 18 60) 4 19 60) 5 20 60) 6 21 3) 7 22 8) 8 23 8) 1 7)) 16 8 ((am_up (am_cp (am_cp (am_cp (am_cp (am_cp (am_cp (am_cp M 2 17 60) 3 18 60) 4 19 60) 5 20 60) 6 21 3) 7 22 8) 8 23 8) 16 7 ((am_cp (am_cp (am_cp (am_cp (am_cp (am_cp (am_cp M 2 17 60) 3 18 60) 4 19 60) 5 20 60) 6 21 3) 7 22 8) 8 23 8) 1 7)) 1 8)) 16 9 ((am_up (am_up (am_cp (am_cp (am_cp (am_cp (am_cp (am_cp (am_cp M 2 17 60) 3 18 60) 4 19 60) 5 20 60) 6 21 3) 7 22 8) 8 23 8) 16 7 ((am_cp (am_cp (am_cp (am_cp (am_cp (am_cp (am_cp M 2 17 60) 3 18 60) 4 19 60) 5 20 60) 6 21 3) 7 22 8) 8 23 8) 1 7)) 16 8 ((am_up (am_cp (am_cp (am_cp (am_cp (am_cp (am_cp (am_cp M 2 17 60) 3 18 60) 4 19 60) 5 20 60) 6 21 3) 7 22 8) 8 23 8) 16 7 ((am_cp (am_cp (am_cp (am_cp (am_cp (am_cp (am_cp M 2 17 60) 3 18 60) 4 19 60) 5 20 60) 6 21 3) 7 22 8) 8 23 8) 1 7)) 1 8)) 1 9)) 16 10 ((am_up (am_up (am_up (am_cp (am_cp (am_cp (am_cp (am_cp (am_cp (am_cp M 2 17 60) 3 18 60) 4 19 60) 5 20 60) 6 21 3) 7 22 8) 8 23 8) 16 7 ((am_cp (am_cp (am_cp (am_cp (am_cp (am_cp (am_cp M 2 17 60) 3 18 60) 4 19 60) 5 20 60) 6 21 3) 7 22 8) 8 23 8) 1 7)) 16 8 ((am_up (am_cp (am_cp (am_cp (am_cp (am_cp (am_cp (am_cp M 2 17 60) 3 18 60) 4 19 60) 5 20 60) 6 21 3) 7 22 8) 8 23 8) 16 7 ((am_cp (am_cp (am_cp (am_cp (am_cp (am_cp (am_cp M 2 17 60) 3 18 60) 4 19 60) 5 20 60) 6 21 3) 7 22 8) 8 23 8) 1 7)) 1 8)) 16 9 ((am_up (am_up (am_cp (am_cp (am_cp (am_cp (am_cp (am_cp (am_cp M 2 17 60) 3 18 60) 4 19 60) 5 20 60) 6 21 3) 7 22 8) 8 23 8) 16 7 ((am_cp (am_cp (am_cp (am_cp (am_cp (am_cp (am_cp M 2 17 60) 3 18 60) 4 19 60) 5 20 60) 6 21 3) 7 22 8) 8 23 8) 1 7)) 16 8 ((am_up (am_cp (am_cp (am_cp (am_cp (am_cp (am_cp (am_cp M 2 17 60) 3 18 60) 4 19 60) 5 20 60) 6 21 3) 7 22 8) 8 23 8) 16 7 ((am_cp (am_cp (am_cp (am_cp (am_cp (am_cp (am_cp M 2 17 60) 3 18 60) 4 19 60) 5 20 60) 6 21 3) 7 22 8) 8 23 8) 1 7)) 1 8)) 1 9)) 1 10))) rfl ⟨⟨by decide, by decide⟩, ⟨rfl, rfl, by decide, by decide, by decide, by decide⟩, ⟨by decide, by decide⟩, ⟨rfl, rfl, by decide, by decide, by decide, by decide⟩, ⟨by decide, by decide⟩, ⟨rfl, rfl, by decide, by decide, by decide, by decide⟩, ⟨by decide, by decide⟩, ⟨rfl, rfl, by decide, by decide, by decide, by decide⟩, ⟨rfl, rfl, by decide, by decide, by decide, by decide⟩, ⟨by decide, by decide⟩, ⟨rfl, rfl, by decide, by decide, by decide, by decide⟩, ⟨by decide, by decide⟩, ⟨rfl, rfl, by decide, by decide, by decide, by decide⟩, trivial⟩ ?_
  exact am_Wretv rfl rfl h
def wp_X2_copyFrom_24_1 (M : am_M) (Q : am_M → Prop) : Prop := Q (am_up (am_up (am_up (am_up (am_cp (am_cp (am_cp (am_cp (am_cp (am_cp (am_cp M 2 25 60) 3 26 60) 4 27 60) 5 28 60) 6 29 3) 7 30 8) 8 31 8) 24 7 ((am_cp (am_cp (am_cp (am_cp (am_cp (am_cp (am_cp M 2 25 60) 3 26 60) 4 27 60) 5 28 60) 6 29 3) 7 30 8) 8 31 8) 1 7)) 24 8 ((am_up (am_cp (am_cp (am_cp (am_cp (am_cp (am_cp (am_cp M 2 25 60) 3 26 60) 4 27 60) 5 28 60) 6 29 3) 7 30 8) 8 31 8) 24 7 ((am_cp (am_cp (am_cp (am_cp (am_cp (am_cp (am_cp M 2 25 60) 3 26 60) 4 27 60) 5 28 60) 6 29 3) 7 30 8) 8 31 8) 1 7)) 1 8)) 24 9 ((am_up (am_up (am_cp (am_cp (am_cp (am_cp (am_cp (am_cp (am_cp M 2 25 60) 3 26 60) 4 27 60) 5 28 60) 6 29 3) 7 30 8) 8 31 8) 24 7 ((am_cp (am_cp (am_cp (am_cp (am_cp (am_cp (am_cp M 2 25 60) 3 26 60) 4 27 60) 5 28 60) 6 29 3) 7 30 8) 8 31 8) 1 7)) 24 8 ((am_up (am_cp (am_cp (am_cp (am_cp (am_cp (am_cp (am_cp M 2 25 60) 3 26 60) 4 27 60) 5 28 60) 6 29 3) 7 30 8) 8 31 8) 24 7 ((am_cp (am_cp (am_cp (am_cp (am_cp (am_cp (am_cp M 2 25 60) 3 26 60) 4 27 60) 5 28 60) 6 29 3) 7 30 8) 8 31 8) 1 7)) 1 8)) 1 9)) 24 10 ((am_up (am_up (am_up (am_cp (am_cp (am_cp (am_cp (am_cp (am_cp (am_cp M 2 25 60) 3 26 60) 4 27 60) 5 28 60) 6 29 3) 7 30 8) 8 31 8) 24 7 ((am_cp (am_cp (am_cp (am_cp (am_cp (am_cp (am_cp M 2 25 60) 3 26 60) 4 27 60) 5 28 60) 6 29 3) 7 30 8) 8 31 8) 1 7)) 24 8 ((am_up (am_cp (am_cp (am_cp (am_cp (am_cp (am_cp (am_cp M 2 25 60) 3 26 60) 4 27 60) 5 28 60) 6 29 3) 7 30 8) 8 31 8) 24 7 ((am_cp (am_cp (am_cp (am_cp (am_cp (am_cp (am_cp M 2 25 60) 3 26 60) 4 27 60) 5 28 60) 6 29 3) 7 30 8) 8 31 8) 1 7)) 1 8)) 24 9 ((am_up (am_up (am_cp (am_cp (am_cp (am_cp (am_cp (am_cp (am_cp M 2 25 60) 3 26 60) 4 27 60) 5 28 60) 6 29 3) 7 30 8) 8 31 8) 24 7 ((am_cp (am_cp (am_cp (am_cp (am_cp (am_cp (am_cp M 2 25 60) 3 26 60) 4 27 60) 5 28 60) 6 29 3) 7 30 8) 8 31 8) 1 7)) 24 8 ((am_up (am_cp (am_cp (am_cp (am_cp (am_cp (am_cp (am_cp M 2 25 60) 3 26 60) 4 27 60) 5 28 60) 6 29 3) 7 30 8) 8 31 8) 24 7 ((am_cp (am_cp (am_cp (am_cp (am_cp (am_cp (am_cp M 2 25 60) 3 26 60) 4 27 60) 5 28 60) 6 29 3) 7 30 8) 8 31 8) 1 7)) 1 8)) 1 9)) 1 10))
set_option maxRecDepth 20000 in
theorem tm_X2_copyFrom_24_1 {M : am_M} {Q : am_M → Prop} (h : wp_X2_copyFrom_24_1 M Q) : am_CC 1 4 [.inr (.inl (some 24)), .inr (.inl (some 1))] M (am_QV Q) (fun _ _ => False) := by
  refine ⟨Nat.le_of_ble_eq_true rfl, ?_⟩
  show am_W (am_CC 0) dt_X2_copyFrom 0 0 none (am_QV Q) (am_qx 4 (fun _ _ => False)) (0, 0, [(0, .inr (.inl (some 24))), (1, .inr (.inl (some 1)))], [], M)
  refine am_Wrun 72 (ps := [-128 ≤ (60 : Int) ∧ (60 : Int) ≤ 127, (0 : Int) = 0 ∧ (0 : Int) = 0 ∧ (0 : Int) ≤ 60 ∧ (60 : Int) ≤ 60 ∧ (60 : Int) ≤ 60 ∧ am_cs [] ≤ 8, -128 ≤ (60 : Int) ∧ (60 : Int) ≤ 127, (0 : Int) = 0 ∧ (0 : Int) = 0 ∧ (0 : Int) ≤ 60 ∧ (60 : Int) ≤ 60 ∧ (60 : Int) ≤ 60 ∧ am_cs [] ≤ 8, -128 ≤ (60 : Int) ∧ (60 : Int) ≤ 127, (0 : Int) = 0 ∧ (0 : Int) = 0 ∧ (0 : Int) ≤ 60 ∧ (60 : Int) ≤ 60 ∧ (60 : Int) ≤ 60 ∧ am_cs [] ≤ 8, -128 ≤ (60 : Int) ∧ (60 : Int) ≤ 127, (0 : Int) = 0 ∧ (0 : Int) = 0 ∧ (0 : Int) ≤ 60 ∧ (60 : Int) ≤ 60 ∧ (60 : Int) ≤ 60 ∧ am_cs [] ≤ 8, (0 : Int) = 0 ∧ (0 : Int) = 0 ∧ (0 : Int) ≤ 3 ∧ (3 : Int) ≤ 3 ∧ (3 : Int) ≤ 3 ∧ am_cs [] ≤ 8, -128 ≤ (8 : Int) ∧ (8 : Int) ≤ 127, (0 : Int) = 0 ∧ (0 : Int) = 0 ∧ (0 : Int) ≤ 8 ∧ (8 : Int) ≤ 8 ∧ (8 : Int) ≤ 8 ∧ am_cs [] ≤ 8, -128 ≤ (8 : Int) ∧ (8 : Int) ≤ 127, (0 : Int) = 0 ∧ (0 : Int) = 0 ∧ (0 : Int) ≤ 8 ∧ (8 : Int) ≤ 8 ∧ (8 : Int) ≤ 8 ∧ am_cs [] ≤ 8]) (pc' := 136) (lv' := [(0, .inr (.inl (some 24))), (1, .inr (.inl (some 1)))]) (st' := []) (M' := (am_up (am_up (am_up (am_up (am_cp (am_cp (am_cp (am_cp (am_cp (am_cp (am_cp M 2 25 60) 3 26 60) 4 27 60) 5 28 60) 6 29 3) 7 30 8) 8 31 8) 24 7 ((am_cp (am_cp (am_cp (am_cp (am_cp (am_cp (am_cp M 2 25 60) 3 26 60) 4 27 60) 5 28 60) 6 29 3) 7 30 8) 8 31 8) 1 7)) 24 8 ((am_up (am_cp (am_cp (am_cp (am_cp (am_cp (am_cp (am_cp M 2 25 60) 3 26 60) 4 27 60) 5 28 60) 6 29 3) 7 30 8) 8 31 8) 24 7 ((am_cp (am_cp (am_cp (am_cp (am_cp (am_cp (am_cp M 2 25 60) 3 26 60) 4 27 60) 5 28 60) 6 29 3) 7 30 8) 8 31 8) 1 7)) 1 8)) 24 9 ((am_up (am_up (am_cp (am_cp (am_cp (am_cp (am_cp (am_cp (am_cp M 2 25 60) 3 26 60) 4 27 60) 5 28 60) 6 29 3) 7 30 8) 8 31 8) 24 7 ((am_cp (am_cp (am_cp (am_cp (am_cp (am_cp (am_cp M 2 25 60) 3 26 60) 4 27 60) 5 28 60) 6 29 3) 7 30 8) 8 31 8) 1 7)) 24 8 ((am_up (am_cp (am_cp (am_cp (am_cp (am_cp (am_cp (am_cp M 2 25 60) 3 26 60) 4 27 60) 5 28 60) 6 29 3) 7 30 8) 8 31 8) 24 7 ((am_cp (am_cp (am_cp (am_cp (am_cp (am_cp (am_cp M 2 25 60) 3 26 60) 4 27 60) 5 28 60) 6 29 3) 7 30 8) 8 31 8) 1 7)) 1 8)) 1 9)) 24 10 ((am_up (am_up (am_up (am_cp (am_cp (am_cp (am_cp (am_cp (am_cp (am_cp M 2 25 60) 3 26 60) 4 27 60) 5 28 60) 6 29 3) 7 30 8) 8 31 8) 24 7 ((am_cp (am_cp (am_cp (am_cp (am_cp (am_cp (am_cp M 2 25 60) 3 26 60) 4 27 60) 5 28 60) 6 29 3) 7 30 8) 8 31 8) 1 7)) 24 8 ((am_up (am_cp (am_cp (am_cp (am_cp (am_cp (am_cp (am_cp M 2 25 60) 3 26 60) 4 27 60) 5 28 60) 6 29 3) 7 30 8) 8 31 8) 24 7 ((am_cp (am_cp (am_cp (am_cp (am_cp (am_cp (am_cp M 2 25 60) 3 26 60) 4 27 60) 5 28 60) 6 29 3) 7 30 8) 8 31 8) 1 7)) 1 8)) 24 9 ((am_up (am_up (am_cp (am_cp (am_cp (am_cp (am_cp (am_cp (am_cp M 2 25 60) 3 26 60) 4 27 60) 5 28 60) 6 29 3) 7 30 8) 8 31 8) 24 7 ((am_cp (am_cp (am_cp (am_cp (am_cp (am_cp (am_cp M 2 25 60) 3 26 60) 4 27 60) 5 28 60) 6 29 3) 7 30 8) 8 31 8) 1 7)) 24 8 ((am_up (am_cp (am_cp (am_cp (am_cp (am_cp (am_cp (am_cp M 2 25 60) 3 26 60) 4 27 60) 5 28 60) 6 29 3) 7 30 8) 8 31 8) 24 7 ((am_cp (am_cp (am_cp (am_cp (am_cp (am_cp (am_cp M 2 25 60) 3 26 60) 4 27 60) 5 28 60) 6 29 3) 7 30 8) 8 31 8) 1 7)) 1 8)) 1 9)) 1 10))) rfl ⟨⟨by decide, by decide⟩, ⟨rfl, rfl, by decide, by decide, by decide, by decide⟩, ⟨by decide, by decide⟩, ⟨rfl, rfl, by decide, by decide, by decide, by decide⟩, ⟨by decide, by decide⟩, ⟨rfl, rfl, by decide, by decide, by decide, by decide⟩, ⟨by decide, by decide⟩, ⟨rfl, rfl, by decide, by decide, by decide, by decide⟩, ⟨rfl, rfl, by decide, by decide, by decide, by decide⟩, ⟨by decide, by decide⟩, ⟨rfl, rfl, by decide, by decide, by decide, by decide⟩, ⟨by decide, by decide⟩, ⟨rfl, rfl, by decide, by decide, by decide, by decide⟩, trivial⟩ ?_
  exact am_Wretv rfl rfl h
def wp_X2_copyFrom_32_1 (M : am_M) (Q : am_M → Prop) : Prop := Q (am_up (am_up (am_up (am_up (am_cp (am_cp (am_cp (am_cp (am_cp (am_cp (am_cp M 2 33 60) 3 34 60) 4 35 60) 5 36 60) 6 37 3) 7 38 8) 8 39 8) 32 7 ((am_cp (am_cp (am_cp (am_cp (am_cp (am_cp (am_cp M 2 33 60) 3 34 60) 4 35 60) 5 36 60) 6 37 3) 7 38 8) 8 39 8) 1 7)) 32 8 ((am_up (am_cp (am_cp (am_cp (am_cp (am_cp (am_cp (am_cp M 2 33 60) 3 34 60) 4 35 60) 5 36 60) 6 37 3) 7 38 8) 8 39 8) 32 7 ((am_cp (am_cp (am_cp (am_cp (am_cp (am_cp (am_cp M 2 33 60) 3 34 60) 4 35 60) 5 36 60) 6 37 3) 7 38 8) 8 39 8) 1 7)) 1 8)) 32 9 ((am_up (am_up (am_cp (am_cp (am_cp (am_cp (am_cp (am_cp (am_cp M 2 33 60) 3 34 60) 4 35 60) 5 36 60) 6 37 3) 7 38 8) 8 39 8) 32 7 ((am_cp (am_cp (am_cp (am_cp (am_cp (am_cp (am_cp M 2 33 60) 3 34 60) 4 35 60) 5 36 60) 6 37 3) 7 38 8) 8 39 8) 1 7)) 32 8 ((am_up (am_cp (am_cp (am_cp (am_cp (am_cp (am_cp (am_cp M 2 33 60) 3 34 60) 4 35 60) 5 36 60) 6 37 3) 7 38 8) 8 39 8) 32 7 ((am_cp (am_cp (am_cp (am_cp (am_cp (am_cp (am_cp M 2 33 60) 3 34 60) 4 35 60) 5 36 60) 6 37 3) 7 38 8) 8 39 8) 1 7)) 1 8)) 1 9)) 32 10 ((am_up (am_up (am_up (am_cp (am_cp (am_cp (am_cp (am_cp (am_cp (am_cp M 2 33 60) 3 34 60) 4 35 60) 5 36 60) 6 37 3) 7 38 8) 8 39 8) 32 7 ((am_cp (am_cp (am_cp (am_cp (am_cp (am_cp (am_cp M 2 33 60) 3 34 60) 4 35 60) 5 36 60) 6 37 3) 7 38 8) 8 39 8) 1 7)) 32 8 ((am_up (am_cp (am_cp (am_cp (am_cp (am_cp (am_cp (am_cp M 2 33 60) 3 34 60) 4 35 60) 5 36 60) 6 37 3) 7 38 8) 8 39 8) 32 7 ((am_cp (am_cp (am_cp (am_cp (am_cp (am_cp (am_cp M 2 33 60) 3 34 60) 4 35 60) 5 36 60) 6 37 3) 7 38 8) 8 39 8) 1 7)) 1 8)) 32 9 ((am_up (am_up (am_cp (am_cp (am_cp (am_cp (am_cp (am_cp (am_cp M 2 33 60) 3 34 60) 4 35 60) 5 36 60) 6 37 3) 7 38 8) 8 39 8) 32 7 ((am_cp (am_cp (am_cp (am_cp (am_cp (am_cp (am_cp M 2 33 60) 3 34 60) 4 35 60) 5 36 60) 6 37 3) 7 38 8) 8 39 8) 1 7)) 32 8 ((am_up (am_cp (am_cp (am_cp (am_cp (am_cp (am_cp (am_cp M 2 33 60) 3 34 60) 4 35 60) 5 36 60) 6 37 3) 7 38 8) 8 39 8) 32 7 ((am_cp (am_cp (am_cp (am_cp (am_cp (am_cp (am_cp M 2 33 60) 3 34 60) 4 35 60) 5 36 60) 6 37 3) 7 38 8) 8 39 8) 1 7)) 1 8)) 1 9)) 1 10))
set_option maxRecDepth 20000 in
theorem tm_X2_copyFrom_32_1 {M : am_M} {Q : am_M → Prop} (h : wp_X2_copyFrom_32_1 M Q) : am_CC 1 4 [.inr (.inl (some 32)), .inr (.inl (some 1))] M (am_QV Q) (fun _ _ => False) := by
  refine ⟨Nat.le_of_ble_eq_true rfl, ?_⟩
  show am_W (am_CC 0) dt_X2_copyFrom 0 0 none (am_QV Q) (am_qx 4 (fun _ _ => False)) (0, 0, [(0, .inr (.inl (some 32))), (1, .inr (.inl (some 1)))], [], M)
  refine am_Wrun 72 (ps := [-128 ≤ (60 : Int) ∧ (60 : Int) ≤ 127, (0 : Int) = 0 ∧ (0 : Int) = 0 ∧ (0 : Int) ≤ 60 ∧ (60 : Int) ≤ 60 ∧ (60 : Int) ≤ 60 ∧ am_cs [] ≤ 8, -128 ≤ (60 : Int) ∧ (60 : Int) ≤ 127, (0 : Int) = 0 ∧ (0 : Int) = 0 ∧ (0 : Int) ≤ 60 ∧ (60 : Int) ≤ 60 ∧ (60 : Int) ≤ 60 ∧ am_cs [] ≤ 8, -128 ≤ (60 : Int) ∧ (60 : Int) ≤ 127, (0 : Int) = 0 ∧ (0 : Int) = 0 ∧ (0 : Int) ≤ 60 ∧ (60 : Int) ≤ 60 ∧ (60 : Int) ≤ 60 ∧ am_cs [] ≤ 8, -128 ≤ (60 : Int) ∧ (60 : Int) ≤ 127, (0 : Int) = 0 ∧ (0 : Int) = 0 ∧ (0 : Int) ≤ 60 ∧ (60 : Int) ≤ 60 ∧ (60 : Int) ≤ 60 ∧ am_cs [] ≤ 8, (0 : Int) = 0 ∧ (0 : Int) = 0 ∧ (0 : Int) ≤ 3 ∧ (3 : Int) ≤ 3 ∧ (3 : Int) ≤ 3 ∧ am_cs [] ≤ 8, -128 ≤ (8 : Int) ∧ (8 : Int) ≤ 127, (0 : Int) = 0 ∧ (0 : Int) = 0 ∧ (0 : Int) ≤ 8 ∧ (8 : Int) ≤ 8 ∧ (8 : Int) ≤ 8 ∧ am_cs [] ≤ 8, -128 ≤ (8 : Int) ∧ (8 : Int) ≤ 127, (0 : Int) = 0 ∧ (0 : Int) = 0 ∧ (0 : Int) ≤ 8 ∧ (8 : Int) ≤ 8 ∧ (8 : Int) ≤ 8 ∧ am_cs [] ≤ 8]) (pc' := 136) (lv' := [(0, .inr (.inl (some 32))), (1, .inr (.inl (some 1)))]) (st' := []) (M' := (am_up (am_up (am_up (am_up (am_cp (am_cp (am_cp (am_cp (am_cp (am_cp (am_cp M 2 33 60) 3 34 60) 4 35 60) 5 36 60) 6 37 3) 7 38 8) 8 39 8) 32 7 ((am_cp (am_cp (am_cp (am_cp (am_cp (am_cp (am_cp M 2 33 60) 3 34 60) 4 35 60) 5 36 60) 6 37 3) 7 38 8) 8 39 8) 1 7)) 32 8 ((am_up (am_cp (am_cp (am_cp (am_cp (am_cp (am_cp (am_cp M 2 33 60) 3 34 60) 4 35 60) 5 36 60) 6 37 3) 7 38 8) 8 39 8) 32 7 ((am_cp (am_cp (am_cp (am_cp (am_cp (am_cp (am_cp M 2 33 60) 3 34 60) 4 35 60) 5 36 60) 6 37 3) 7 38 8) 8 39 8) 1 7)) 1 8)) 32 9 ((am_up (am_up (am_cp (am_cp (am_cp (am_cp (am_cp (am_cp (am_cp M 2 33 60) 3 34 60) 4 35 60) 5 36 60) 6 37 3) 7 38 8) 8 39 8) 32 7 ((am_cp (am_cp (am_cp (am_cp (am_cp (am_cp (am_cp M 2 33 60) 3 34 60) 4 35 60) 5 36 60) 6 37 3) 7 38 8) 8 39 8) 1 7)) 32 8 ((am_up (am_cp (am_cp (am_cp (am_cp (am_cp (am_cp (am_cp M 2 33 60) 3 34 60) 4 35 60) 5 36 60) 6 37 3) 7 38 8) 8 39 8) 32 7 ((am_cp (am_cp (am_cp (am_cp (am_cp (am_cp (am_cp M 2 33 60) 3 34 60) 4 35 60) 5 36 60) 6 37 3) 7 38 8) 8 39 8) 1 7)) 1 8)) 1 9)) 32 10 ((am_up (am_up (am_up (am_cp (am_cp (am_cp (am_cp (am_cp (am_cp (am_cp M 2 33 60) 3 34 60) 4 35 60) 5 36 60) 6 37 3) 7 38 8) 8 39 8) 32 7 ((am_cp (am_cp (am_cp (am_cp (am_cp (am_cp (am_cp M 2 33 60) 3 34 60) 4 35 60) 5 36 60) 6 37 3) 7 38 8) 8 39 8) 1 7)) 32 8 ((am_up (am_cp (am_cp (am_cp (am_cp (am_cp (am_cp (am_cp M 2 33 60) 3 34 60) 4 35 60) 5 36 60) 6 37 3) 7 38 8) 8 39 8) 32 7 ((am_cp (am_cp (am_cp (am_cp (am_cp (am_cp (am_cp M 2 33 60) 3 34 60) 4 35 60) 5 36 60) 6 37 3) 7 38 8) 8 39 8) 1 7)) 1 8)) 32 9 ((am_up (am_up (am_cp (am_cp (am_cp (am_cp (am_cp (am_cp (am_cp M 2 33 60) 3 34 60) 4 35 60) 5 36 60) 6 37 3) 7 38 8) 8 39 8) 32 7 ((am_cp (am_cp (am_cp (am_cp (am_cp (am_cp (am_cp M 2 33 60) 3 34 60) 4 35 60) 5 36 60) 6 37 3) 7 38 8) 8 39 8) 1 7)) 32 8 ((am_up (am_cp (am_cp (am_cp (am_cp (am_cp (am_cp (am_cp M 2 33 60) 3 34 60) 4 35 60) 5 36 60) 6 37 3) 7 38 8) 8 39 8) 32 7 ((am_cp (am_cp (am_cp (am_cp (am_cp (am_cp (am_cp M 2 33 60) 3 34 60) 4 35 60) 5 36 60) 6 37 3) 7 38 8) 8 39 8) 1 7)) 1 8)) 1 9)) 1 10))) rfl ⟨⟨by decide, by decide⟩, ⟨rfl, rfl, by decide, by decide, by decide, by decide⟩, ⟨by decide, by decide⟩, ⟨rfl, rfl, by decide, by decide, by decide, by decide⟩, ⟨by decide, by decide⟩, ⟨rfl, rfl, by decide, by decide, by decide, by decide⟩, ⟨by decide, by decide⟩, ⟨rfl, rfl, by decide, by decide, by decide, by decide⟩, ⟨rfl, rfl, by decide, by decide, by decide, by decide⟩, ⟨by decide, by decide⟩, ⟨rfl, rfl, by decide, by decide, by decide, by decide⟩, ⟨by decide, by decide⟩, ⟨rfl, rfl, by decide, by decide, by decide, by decide⟩, trivial⟩ ?_
  exact am_Wretv rfl rfl h
def wp_X2_copyFrom_40_1 (M : am_M) (Q : am_M → Prop) : Prop := Q (am_up (am_up (am_up (am_up (am_cp (am_cp (am_cp (am_cp (am_cp (am_cp (am_cp M 2 41 60) 3 42 60) 4 43 60) 5 44 60) 6 45 3) 7 46 8) 8 47 8) 40 7 ((am_cp (am_cp (am_cp (am_cp (am_cp (am_cp (am_cp M 2 41 60) 3 42 60) 4 43 60) 5 44 60) 6 45 3) 7 46 8) 8 47 8) 1 7)) 40 8 ((am_up (am_cp (am_cp (am_cp (am_cp (am_cp (am_cp (am_cp M 2 41 60) 3 42 60) 4 43 60) 5 44 60) 6 45 3) 7 46 8) 8 47 8) 40 7 ((am_cp (am_cp (am_cp (am_cp (am_cp (am_cp (am_cp M 2 41 60) 3 42 60) 4 43 60) 5 44 60) 6 45 3) 7 46 8) 8 47 8) 1 7)) 1 8)) 40 9 ((am_up (am_up (am_cp (am_cp (am_cp (am_cp (am_cp (am_cp (am_cp M 2 41 60) 3 42 60) 4 43 60) 5 44 60) 6 45 3) 7 46 8) 8 47 8) 40 7 ((am_cp (am_cp (am_cp (am_cp (am_cp (am_cp (am_cp M 2 41 60) 3 42 60) 4 43 60) 5 44 60) 6 45 3) 7 46 8) 8 47 8) 1 7)) 40 8 ((am_up (am_cp (am_cp (am_cp (am_cp (am_cp (am_cp (am_cp M 2 41 60) 3 42 60) 4 43 60) 5 44 60) 6 45 3) 7 46 8) 8 47 8) 40 7 ((am_cp (am_cp (am_cp (am_cp (am_cp (am_cp (am_cp M 2 41 60) 3 42 60) 4 43 60) 5 44 60) 6 45 3) 7 46 8) 8 47 8) 1 7)) 1 8)) 1 9)) 40 10 ((am_up (am_up (am_up (am_cp (am_cp (am_cp (am_cp (am_cp (am_cp (am_cp M 2 41 60) 3 42 60) 4 43 60) 5 44 60) 6 45 3) 7 46 8) 8 47 8) 40 7 ((am_cp (am_cp (am_cp (am_cp (am_cp (am_cp (am_cp M 2 41 60) 3 42 60) 4 43 60) 5 44 60) 6 45 3) 7 46 8) 8 47 8) 1 7)) 40 8 ((am_up (am_cp (am_cp (am_cp (am_cp (am_cp (am_cp (am_cp M 2 41 60) 3 42 60) 4 43 60) 5 44 60) 6 45 3) 7 46 8) 8 47 8) 40 7 ((am_cp (am_cp (am_cp (am_cp (am_cp (am_cp (am_cp M 2 41 60) 3 42 60) 4 43 60) 5 44 60) 6 45 3) 7 46 8) 8 47 8) 1 7)) 1 8)) 40 9 ((am_up (am_up (am_cp (am_cp (am_cp (am_cp (am_cp (am_cp (am_cp M 2 41 60) 3 42 60) 4 43 60) 5 44 60) 6 45 3) 7 46 8) 8 47 8) 40 7 ((am_cp (am_cp (am_cp (am_cp (am_cp (am_cp (am_cp M 2 41 60) 3 42 60) 4 43 60) 5 44 60) 6 45 3) 7 46 8) 8 47 8) 1 7)) 40 8 ((am_up (am_cp (am_cp (am_cp (am_cp (am_cp (am_cp (am_cp M 2 41 60) 3 42 60) 4 43 60) 5 44 60) 6 45 3) 7 46 8) 8 47 8) 40 7 ((am_cp (am_cp (am_cp (am_cp (am_cp (am_cp (am_cp M 2 41 60) 3 42 60) 4 43 60) 5 44 60) 6 45 3) 7 46 8) 8 47 8) 1 7)) 1 8)) 1 9)) 1 10))
set_option maxRecDepth 20000 in
theorem tm_X2_copyFrom_40_1 {M : am_M} {Q : am_M → Prop} (h : wp_X2_copyFrom_40_1 M Q) : am_CC 1 4 [.inr (.inl (some 40)), .inr (.inl (some 1))] M (am_QV Q) (fun _ _ => False) := by
  refine ⟨Nat.le_of_ble_eq_true rfl, ?_⟩
  show am_W (am_CC 0) dt_X2_copyFrom 0 0 none (am_QV Q) (am_qx 4 (fun _ _ => False)) (0, 0, [(0, .inr (.inl (some 40))), (1, .inr (.inl (some 1)))], [], M)
  refine am_Wrun 72 (ps := [-128 ≤ (60 : Int) ∧ (60 : Int) ≤ 127, (0 : Int) = 0 ∧ (0 : Int) = 0 ∧ (0 : Int) ≤ 60 ∧ (60 : Int) ≤ 60 ∧ (60 : Int) ≤ 60 ∧ am_cs [] ≤ 8, -128 ≤ (60 : Int) ∧ (60 : Int) ≤ 127, (0 : Int) = 0 ∧ (0 : Int) = 0 ∧ (0 : Int) ≤ 60 ∧ (60 : Int) ≤ 60 ∧ (60 : Int) ≤ 60 ∧ am_cs [] ≤ 8, -128 ≤ (60 : Int) ∧ (60 : Int) ≤ 127, (0 : Int) = 0 ∧ (0 : Int) = 0 ∧ (0 : Int) ≤ 60 ∧ (60 : Int) ≤ 60 ∧ (60 : Int) ≤ 60 ∧ am_cs [] ≤ 8, -128 ≤ (60 : Int) ∧ (60 : Int) ≤ 127, (0 : Int) = 0 ∧ (0 : Int) = 0 ∧ (0 : Int) ≤ 60 ∧ (60 : Int) ≤ 60 ∧ (60 : Int) ≤ 60 ∧ am_cs [] ≤ 8, (0 : Int) = 0 ∧ (0 : Int) = 0 ∧ (0 : Int) ≤ 3 ∧ (3 : Int) ≤ 3 ∧ (3 : Int) ≤ 3 ∧ am_cs [] ≤ 8, -128 ≤ (8 : Int) ∧ (8 : Int) ≤ 127, (0 : Int) = 0 ∧ (0 : Int) = 0 ∧ (0 : Int) ≤ 8 ∧ (8 : Int) ≤ 8 ∧ (8 : Int) ≤ 8 ∧ am_cs [] ≤ 8, -128 ≤ (8 : Int) ∧ (8 : Int) ≤ 127, (0 : Int) = 0 ∧ (0 : Int) = 0 ∧ (0 : Int) ≤ 8 ∧ (8 : Int) ≤ 8 ∧ (8 : Int) ≤ 8 ∧ am_cs [] ≤ 8]) (pc' := 136) (lv' := [(0, .inr (.inl (some 40))), (1, .inr (.inl (some 1)))]) (st' := []) (M' := (am_up (am_up (am_up (am_up (am_cp (am_cp (am_cp (am_cp (am_cp (am_cp (am_cp M 2 41 60) 3 42 60) 4 43 60) 5 44 60) 6 45 3) 7 46 8) 8 47 8) 40 7 ((am_cp (am_cp (am_cp (am_cp (am_cp (am_cp (am_cp M 2 41 60) 3 42 60) 4 43 60) 5 44 60) 6 45 3) 7 46 8) 8 47 8) 1 7)) 40 8 ((am_up (am_cp (am_cp (am_cp (am_cp (am_cp (am_cp (am_cp M 2 41 60) 3 42 60) 4 43 60) 5 44 60) 6 45 3) 7 46 8) 8 47 8) 40 7 ((am_cp (am_cp (am_cp (am_cp (am_cp (am_cp (am_cp M 2 41 60) 3 42 60) 4 43 60) 5 44 60) 6 45 3) 7 46 8) 8 47 8) 1 7)) 1 8)) 40 9 ((am_up (am_up (am_cp (am_cp (am_cp (am_cp (am_cp (am_cp (am_cp M 2 41 60) 3 42 60) 4 43 60) 5 44 60) 6 45 3) 7 46 8) 8 47 8) 40 7 ((am_cp (am_cp (am_cp (am_cp (am_cp (am_cp (am_cp M 2 41 60) 3 42 60) 4 43 60) 5 44 60) 6 45 3) 7 46 8) 8 47 8) 1 7)) 40 8 ((am_up (am_cp (am_cp (am_cp (am_cp (am_cp (am_cp (am_cp M 2 41 60) 3 42 60) 4 43 60) 5 44 60) 6 45 3) 7 46 8) 8 47 8) 40 7 ((am_cp (am_cp (am_cp (am_cp (am_cp (am_cp (am_cp M 2 41 60) 3 42 60) 4 43 60) 5 44 60) 6 45 3) 7 46 8) 8 47 8) 1 7)) 1 8)) 1 9)) 40 10 ((am_up (am_up (am_up (am_cp (am_cp (am_cp (am_cp (am_cp (am_cp (am_cp M 2 41 60) 3 42 60) 4 43 60) 5 44 60) 6 45 3) 7 46 8) 8 47 8) 40 7 ((am_cp (am_cp (am_cp (am_cp (am_cp (am_cp (am_cp M 2 41 60) 3 42 60) 4 43 60) 5 44 60) 6 45 3) 7 46 8) 8 47 8) 1 7)) 40 8 ((am_up (am_cp (am_cp (am_cp (am_cp (am_cp (am_cp (am_cp M 2 41 60) 3 42 60) 4 43 60) 5 44 60) 6 45 3) 7 46 8) 8 47 8) 40 7 ((am_cp (am_cp (am_cp (am_cp (am_cp (am_cp (am_cp M 2 41 60) 3 42 60) 4 43 60) 5 44 60) 6 45 3) 7 46 8) 8 47 8) 1 7)) 1 8)) 40 9 ((am_up (am_up (am_cp (am_cp (am_cp (am_cp (am_cp (am_cp (am_cp M 2 41 60) 3 42 60) 4 43 60) 5 44 60) 6 45 3) 7 46 8) 8 47 8) 40 7 ((am_cp (am_cp (am_cp (am_cp (am_cp (am_cp (am_cp M 2 41 60) 3 42 60) 4 43 60) 5 44 60) 6 45 3) 7 46 8) 8 47 8) 1 7)) 40 8 ((am_up (am_cp (am_cp (am_cp (am_cp (am_cp (am_cp (am_cp M 2 41 60) 3 42 60) 4 43 60) 5 44 60) 6 45 3) 7 46 8) 8 47 8) 40 7 ((am_cp (am_cp (am_cp (am_cp (am_cp (am_cp (am_cp M 2 41 60) 3 42 60) 4 43 60) 5 44 60) 6 45 3) 7 46 8) 8 47 8) 1 7)) 1 8)) 1 9)) 1 10))) rfl ⟨⟨by decide, by decide⟩, ⟨rfl, rfl, by decide, by decide, by decide, by decide⟩, ⟨by decide, by decide⟩, ⟨rfl, rfl, by decide, by decide, by decide, by decide⟩, ⟨by decide, by decide⟩, ⟨rfl, rfl, by decide, by decide, by decide, by decide⟩, ⟨by decide, by decide⟩, ⟨rfl, rfl, by decide, by decide, by decide, by decide⟩, ⟨rfl, rfl, by decide, by decide, by decide, by decide⟩, ⟨by decide, by decide⟩, ⟨rfl, rfl, by decide, by decide, by decide, by decide⟩, ⟨by decide, by decide⟩, ⟨rfl, rfl, by decide, by decide, by decide, by decide⟩, trivial⟩ ?_
  exact am_Wretv rfl rfl h
def wp_X2_copyFrom_48_1 (M : am_M) (Q : am_M → Prop) : Prop := Q (am_up (am_up (am_up (am_up (am_cp (am_cp (am_cp (am_cp (am_cp (am_cp (am_cp M 2 49 60) 3 50 60) 4 51 60) 5 52 60) 6 53 3) 7 54 8) 8 55 8) 48 7 ((am_cp (am_cp (am_cp (am_cp (am_cp (am_cp (am_cp M 2 49 60) 3 50 60) 4 51 60) 5 52 60) 6 53 3) 7 54 8) 8 55 8) 1 7)) 48 8 ((am_up (am_cp (am_cp (am_cp (am_cp (am_cp (am_cp (am_cp M 2 49 60) 3 50 60) 4 51 60) 5 52 60) 6 53 3) 7 54 8) 8 55 8) 48 7 ((am_cp (am_cp (am_cp (am_cp (am_cp (am_cp (am_cp M 2 49 60) 3 50 60) 4 51 60) 5 52 60) 6 53 3) 7 54 8) 8 55 8) 1 7)) 1 8)) 48 9 ((am_up (am_up (am_cp (am_cp (am_cp (am_cp (am_cp (am_cp (am_cp M 2 49 60) 3 50 60) 4 51 60) 5 52 60) 6 53 3) 7 54 8) 8 55 8) 48 7 ((am_cp (am_cp (am_cp (am_cp (am_cp (am_cp (am_cp M 2 49 60) 3 50 60) 4 51 60) 5 52 60) 6 53 3) 7 54 8) 8 55 8) 1 7)) 48 8 ((am_up (am_cp (am_cp (am_cp (am_cp (am_cp (am_cp (am_cp M 2 49 60) 3 50 60) 4 51 60) 5 52 60) 6 53 3) 7 54 8) 8 55 8) 48 7 ((am_cp (am_cp (am_cp (am_cp (am_cp (am_cp (am_cp M 2 49 60) 3 50 60) 4 51 60) 5 52 60) 6 53 3) 7 54 8) 8 55 8) 1 7)) 1 8)) 1 9)) 48 10 ((am_up (am_up (am_up (am_cp (am_cp (am_cp (am_cp (am_cp (am_cp (am_cp M 2 49 60) 3 50 60) 4 51 60) 5 52 60) 6 53 3) 7 54 8) 8 55 8) 48 7 ((am_cp (am_cp (am_cp (am_cp (am_cp (am_cp (am_cp M 2 49 60) 3 50 60) 4 51 60) 5 52 60) 6 53 3) 7 54 8) 8 55 8) 1 7)) 48 8 ((am_up (am_cp (am_cp (am_cp (am_cp (am_cp (am_cp (am_cp M 2 49 60) 3 50 60) 4 51 60) 5 52 60) 6 53 3) 7 54 8) 8 55 8) 48 7 ((am_cp (am_cp (am_cp (am_cp (am_cp (am_cp (am_cp M 2 49 60) 3 50 60) 4 51 60) 5 52 60) 6 53 3) 7 54 8) 8 55 8) 1 7)) 1 8)) 48 9 ((am_up (am_up (am_cp (am_cp (am_cp (am_cp (am_cp (am_cp (am_cp M 2 49 60) 3 50 60) 4 51 60) 5 52 60) 6 53 3) 7 54 8) 8 55 8) 48 7 ((am_cp (am_cp (am_cp (am_cp (am_cp (am_cp (am_cp M 2 49 60) 3 50 60) 4 51 60) 5 52 60) 6 53 3) 7 54 8) 8 55 8) 1 7)) 48 8 ((am_up (am_cp (am_cp (am_cp (am_cp (am_cp (am_cp (am_cp M 2 49 60) 3 50 60) 4 51 60) 5 52 60) 6 53 3) 7 54 8) 8 55 8) 48 7 ((am_cp (am_cp (am_cp (am_cp (am_cp (am_cp (am_cp M 2 49 60) 3 50 60) 4 51 60) 5 52 60) 6 53 3) 7 54 8) 8 55 8) 1 7)) 1 8)) 1 9)) 1 10))
set_option maxRecDepth 20000 in
theorem tm_X2_copyFrom_48_1 {M : am_M} {Q : am_M → Prop} (h : wp_X2_copyFrom_48_1 M Q) : am_CC 1 4 [.inr (.inl (some 48)), .inr (.inl (some 1))] M (am_QV Q) (fun _ _ => False) := by
  refine ⟨Nat.le_of_ble_eq_true rfl, ?_⟩
  show am_W (am_CC 0) dt_X2_copyFrom 0 0 none (am_QV Q) (am_qx 4 (fun _ _ => False)) (0, 0, [(0, .inr (.inl (some 48))), (1, .inr (.inl (some 1)))], [], M)
  refine am_Wrun 72 (ps := [-128 ≤ (60 : Int) ∧ (60 : Int) ≤ 127, (0 : Int) = 0 ∧ (0 : Int) = 0 ∧ (0 : Int) ≤ 60 ∧ (60 : Int) ≤ 60 ∧ (60 : Int) ≤ 60 ∧ am_cs [] ≤ 8, -128 ≤ (60 : Int) ∧ (60 : Int) ≤ 127, (0 : Int) = 0 ∧ (0 : Int) = 0 ∧ (0 : Int) ≤ 60 ∧ (60 : Int) ≤ 60 ∧ (60 : Int) ≤ 60 ∧ am_cs [] ≤ 8, -128 ≤ (60 : Int) ∧ (60 : Int) ≤ 127, (0 : Int) = 0 ∧ (0 : Int) = 0 ∧ (0 : Int) ≤ 60 ∧ (60 : Int) ≤ 60 ∧ (60 : Int) ≤ 60 ∧ am_cs [] ≤ 8, -128 ≤ (60 : Int) ∧ (60 : Int) ≤ 127, (0 : Int) = 0 ∧ (0 : Int) = 0 ∧ (0 : Int) ≤ 60 ∧ (60 : Int) ≤ 60 ∧ (60 : Int) ≤ 60 ∧ am_cs [] ≤ 8, (0 : Int) = 0 ∧ (0 : Int) = 0 ∧ (0 : Int) ≤ 3 ∧ (3 : Int) ≤ 3 ∧ (3 : Int) ≤ 3 ∧ am_cs [] ≤ 8, -128 ≤ (8 : Int) ∧ (8 : Int) ≤ 127, (0 : Int) = 0 ∧ (0 : Int) = 0 ∧ (0 : Int) ≤ 8 ∧ (8 : Int) ≤ 8 ∧ (8 : Int) ≤ 8 ∧ am_cs [] ≤ 8, -128 ≤ (8 : Int) ∧ (8 : Int) ≤ 127, (0 : Int) = 0 ∧ (0 : Int) = 0 ∧ (0 : Int) ≤ 8 ∧ (8 : Int) ≤ 8 ∧ (8 : Int) ≤ 8 ∧ am_cs [] ≤ 8]) (pc' := 136) (lv' := [(0, .inr (.inl (some 48))), (1, .inr (.inl (some 1)))]) (st' := []) (M' := (am_up (am_up (am_up (am_up (am_cp (am_cp (am_cp (am_cp (am_cp (am_cp (am_cp M 2 49 60) 3 50 60) 4 51 60) 5 52 60) 6 53 3) 7 54 8) 8 55 8) 48 7 ((am_cp (am_cp (am_cp (am_cp (am_cp (am_cp (am_cp M 2 49 60) 3 50 60) 4 51 60) 5 52 60) 6 53 3) 7 54 8) 8 55 8) 1 7)) 48 8 ((am_up (am_cp (am_cp (am_cp (am_cp (am_cp (am_cp (am_cp M 2 49 60) 3 50 60) 4 51 60) 5 52 60) 6 53 3) 7 54 8) 8 55 8) 48 7 ((am_cp (am_cp (am_cp (am_cp (am_cp (am_cp (am_cp M 2 49 60) 3 50 60) 4 51 60) 5 52 60) 6 53 3) 7 54 8) 8 55 8) 1 7)) 1 8)) 48 9 ((am_up (am_up (am_cp (am_cp (am_cp (am_cp (am_cp (am_cp (am_cp M 2 49 60) 3 50 60) 4 51 60) 5 52 60) 6 53 3) 7 54 8) 8 55 8) 48 7 ((am_cp (am_cp (am_cp (am_cp (am_cp (am_cp (am_cp M 2 49 60) 3 50 60) 4 51 60) 5 52 60) 6 53 3) 7 54 8) 8 55 8) 1 7)) 48 8 ((am_up (am_cp (am_cp (am_cp (am_cp (am_cp (am_cp (am_cp M 2 49 60) 3 50 60) 4 51 60) 5 52 60) 6 53 3) 7 54 8) 8 55 8) 48 7 ((am_cp (am_cp (am_cp (am_cp (am_cp (am_cp (am_cp M 2 49 60) 3 50 60) 4 51 60) 5 52 60) 6 53 3) 7 54 8) 8 55 8) 1 7)) 1 8)) 1 9)) 48 10 ((am_up (am_up (am_up (am_cp (am_cp (am_cp (am_cp (am_cp (am_cp (am_cp M 2 49 60) 3 50 60) 4 51 60) 5 52 60) 6 53 3) 7 54 8) 8 55 8) 48 7 ((am_cp (am_cp (am_cp (am_cp (am_cp (am_cp (am_cp M 2 49 60) 3 50 60) 4 51 60) 5 52 60) 6 53 3) 7 54 8) 8 55 8) 1 7)) 48 8 ((am_up (am_cp (am_cp (am_cp (am_cp (am_cp (am_cp (am_cp M 2 49 60) 3 50 60) 4 51 60) 5 52 60) 6 53 3) 7 54 8) 8 55 8) 48 7 ((am_cp (am_cp (am_cp (am_cp (am_cp (am_cp (am_cp M 2 49 60) 3 50 60) 4 51 60) 5 52 60) 6 53 3) 7 54 8) 8 55 8) 1 7)) 1 8)) 48 9 ((am_up (am_up (am_cp (am_cp (am_cp (am_cp (am_cp (am_cp (am_cp M 2 49 60) 3 50 60) 4 51 60) 5 52 60) 6 53 3) 7 54 8) 8 55 8) 48 7 ((am_cp (am_cp (am_cp (am_cp (am_cp (am_cp (am_cp M 2 49 60) 3 50 60) 4 51 60) 5 52 60) 6 53 3) 7 54 8) 8 55 8) 1 7)) 48 8 ((am_up (am_cp (am_cp (am_cp (am_cp (am_cp (am_cp (am_cp M 2 49 60) 3 50 60) 4 51 60) 5 52 60) 6 53 3) 7 54 8) 8 55 8) 48 7 ((am_cp (am_cp (am_cp (am_cp (am_cp (am_cp (am_cp M 2 49 60) 3 50 60) 4 51 60) 5 52 60) 6 53 3) 7 54 8) 8 55 8) 1 7)) 1 8)) 1 9)) 1 10))) rfl ⟨⟨by decide, by decide⟩, ⟨rfl, rfl, by decide, by decide, by decide, by decide⟩, ⟨by decide, by decide⟩, ⟨rfl, rfl, by decide, by decide, by decide, by decide⟩, ⟨by decide, by decide⟩, ⟨rfl, rfl, by decide, by decide, by decide, by decide⟩, ⟨by decide, by decide⟩, ⟨rfl, rfl, by decide, by decide, by decide, by decide⟩, ⟨rfl, rfl, by decide, by decide, by decide, by decide⟩, ⟨by decide, by decide⟩, ⟨rfl, rfl, by decide, by decide, by decide, by decide⟩, ⟨by decide, by decide⟩, ⟨rfl, rfl, by decide, by decide, by decide, by decide⟩, trivial⟩ ?_
  exact am_Wretv rfl rfl h
def wp_X2_copyFrom_56_1 (M : am_M) (Q : am_M → Prop) : Prop := Q (am_up (am_up (am_up (am_up (am_cp (am_cp (am_cp (am_cp (am_cp (am_cp (am_cp M 2 57 60) 3 58 60) 4 59 60) 5 60 60) 6 61 3) 7 62 8) 8 63 8) 56 7 ((am_cp (am_cp (am_cp (am_cp (am_cp (am_cp (am_cp M 2 57 60) 3 58 60) 4 59 60) 5 60 60) 6 61 3) 7 62 8) 8 63 8) 1 7)) 56 8 ((am_up (am_cp (am_cp (am_cp (am_cp (am_cp (am_cp (am_cp M 2 57 60) 3 58 60) 4 59 60) 5 60 60) 6 61 3) 7 62 8) 8 63 8) 56 7 ((am_cp (am_cp (am_cp (am_cp (am_cp (am_cp (am_cp M 2 57 60) 3 58 60) 4 59 60) 5 60 60) 6 61 3) 7 62 8) 8 63 8) 1 7)) 1 8)) 56 9 ((am_up (am_up (am_cp (am_cp (am_cp (am_cp (am_cp (am_cp (am_cp M 2 57 60) 3 58 60) 4 59 60) 5 60 60) 6 61 3) 7 62 8) 8 63 8) 56 7 ((am_cp (am_cp (am_cp (am_cp (am_cp (am_cp (am_cp M 2 57 60) 3 58 60) 4 59 60) 5 60 60) 6 61 3) 7 62 8) 8 63 8) 1 7)) 56 8 ((am_up (am_cp (am_cp (am_cp (am_cp (am_cp (am_cp (am_cp M 2 57 60) 3 58 60) 4 59 60) 5 60 60) 6 61 3) 7 62 8) 8 63 8) 56 7 ((am_cp (am_cp (am_cp (am_cp (am_cp (am_cp (am_cp M 2 57 60) 3 58 60) 4 59 60) 5 60 60) 6 61 3) 7 62 8) 8 63 8) 1 7)) 1 8)) 1 9)) 56 10 ((am_up (am_up (am_up (am_cp (am_cp (am_cp (am_cp (am_cp (am_cp (am_cp M 2 57 60) 3 58 60) 4 59 60) 5 60 60) 6 61 3) 7 62 8) 8 63 8) 56 7 ((am_cp (am_cp (am_cp (am_cp (am_cp (am_cp (am_cp M 2 57 60) 3 58 60) 4 59 60) 5 60 60) 6 61 3) 7 62 8) 8 63 8) 1 7)) 56 8 ((am_up (am_cp (am_cp (am_cp (am_cp (am_cp (am_cp (am_cp M 2 57 60) 3 58 60) 4 59 60) 5 60 60) 6 61 3) 7 62 8) 8 63 8) 56 7 ((am_cp (am_cp (am_cp (am_cp (am_cp (am_cp (am_cp M 2 57 60) 3 58 60) 4 59 60) 5 60 60) 6 61 3) 7 62 8) 8 63 8) 1 7)) 1 8)) 56 9 ((am_up (am_up (am_cp (am_cp (am_cp (am_cp (am_cp (am_cp (am_cp M 2 57 60) 3 58 60) 4 59 60) 5 60 60) 6 61 3) 7 62 8) 8 63 8) 56 7 ((am_cp (am_cp (am_cp (am_cp (am_cp (am_cp (am_cp M 2 57 60) 3 58 60) 4 59 60) 5 60 60) 6 61 3) 7 62 8) 8 63 8) 1 7)) 56 8 ((am_up (am_cp (am_cp (am_cp (am_cp (am_cp (am_cp (am_cp M 2 57 60) 3 58 60) 4 59 60) 5 60 60) 6 61 3) 7 62 8) 8 63 8) 56 7 ((am_cp (am_cp (am_cp (am_cp (am_cp (am_cp (am_cp M 2 57 60) 3 58 60) 4 59 60) 5 60 60) 6 61 3) 7 62 8) 8 63 8) 1 7)) 1 8)) 1 9)) 1 10))
set_option maxRecDepth 20000 in
theorem tm_X2_copyFrom_56_1 {M : am_M} {Q : am_M → Prop} (h : wp_X2_copyFrom_56_1 M Q) : am_CC 1 4 [.inr (.inl (some 56)), .inr (.inl (some 1))] M (am_QV Q) (fun _ _ => False) := by
  refine ⟨Nat.le_of_ble_eq_true rfl, ?_⟩
  show am_W (am_CC 0) dt_X2_copyFrom 0 0 none (am_QV Q) (am_qx 4 (fun _ _ => False)) (0, 0, [(0, .inr (.inl (some 56))), (1, .inr (.inl (some 1)))], [], M)
  refine am_Wrun 72 (ps := [-128 ≤ (60 : Int) ∧ (60 : Int) ≤ 127, (0 : Int) = 0 ∧ (0 : Int) = 0 ∧ (0 : Int) ≤ 60 ∧ (60 : Int) ≤ 60 ∧ (60 : Int) ≤ 60 ∧ am_cs [] ≤ 8, -128 ≤ (60 : Int) ∧ (60 : Int) ≤ 127, (0 : Int) = 0 ∧ (0 : Int) = 0 ∧ (0 : Int) ≤ 60 ∧ (60 : Int) ≤ 60 ∧ (60 : Int) ≤ 60 ∧ am_cs [] ≤ 8, -128 ≤ (60 : Int) ∧ (60 : Int) ≤ 127, (0 : Int) = 0 ∧ (0 : Int) = 0 ∧ (0 : Int) ≤ 60 ∧ (60 : Int) ≤ 60 ∧ (60 : Int) ≤ 60 ∧ am_cs [] ≤ 8, -128 ≤ (60 : Int) ∧ (60 : Int) ≤ 127, (0 : Int) = 0 ∧ (0 : Int) = 0 ∧ (0 : Int) ≤ 60 ∧ (60 : Int) ≤ 60 ∧ (60 : Int) ≤ 60 ∧ am_cs [] ≤ 8, (0 : Int) = 0 ∧ (0 : Int) = 0 ∧ (0 : Int) ≤ 3 ∧ (3 : Int) ≤ 3 ∧ (3 : Int) ≤ 3 ∧ am_cs [] ≤ 8, -128 ≤ (8 : Int) ∧ (8 : Int) ≤ 127, (0 : Int) = 0 ∧ (0 : Int) = 0 ∧ (0 : Int) ≤ 8 ∧ (8 : Int) ≤ 8 ∧ (8 : Int) ≤ 8 ∧ am_cs [] ≤ 8, -128 ≤ (8 : Int) ∧ (8 : Int) ≤ 127, (0 : Int) = 0 ∧ (0 : Int) = 0 ∧ (0 : Int) ≤ 8 ∧ (8 : Int) ≤ 8 ∧ (8 : Int) ≤ 8 ∧ am_cs [] ≤ 8]) (pc' := 136) (lv' := [(0, .inr (.inl (some 56))), (1, .inr (.inl (some 1)))]) (st' := []) (M' := (am_up (am_up (am_up (am_up (am_cp (am_cp (am_cp (am_cp (am_cp (am_cp (am_cp M 2 57 60) 3 58 60) 4 59 60) 5 60 60) 6 61 3) 7 62 8) 8 63 8) 56 7 ((am_cp (am_cp (am_cp (am_cp (am_cp (am_cp (am_cp M 2 57 60) 3 58 60) 4 59 60) 5 60 60) 6 61 3) 7 62 8) 8 63 8) 1 7)) 56 8 ((am_up (am_cp (am_cp (am_cp (am_cp (am_cp (am_cp (am_cp M 2 57 60) 3 58 60) 4 59 60) 5 60 60) 6 61 3) 7 62 8) 8 63 8) 56 7 ((am_cp (am_cp (am_cp (am_cp (am_cp (am_cp (am_cp M 2 57 60) 3 58 60) 4 59 60) 5 60 60) 6 61 3) 7 62 8) 8 63 8) 1 7)) 1 8)) 56 9 ((am_up (am_up (am_cp (am_cp (am_cp (am_cp (am_cp (am_cp (am_cp M 2 57 60) 3 58 60) 4 59 60) 5 60 60) 6 61 3) 7 62 8) 8 63 8) 56 7 ((am_cp (am_cp (am_cp (am_cp (am_cp (am_cp (am_cp M 2 57 60) 3 58 60) 4 59 60) 5 60 60) 6 61 3) 7 62 8) 8 63 8) 1 7)) 56 8 ((am_up (am_cp (am_cp (am_cp (am_cp (am_cp (am_cp (am_cp M 2 57 60) 3 58 60) 4 59 60) 5 60 60) 6 61 3) 7 62 8) 8 63 8) 56 7 ((am_cp (am_cp (am_cp (am_cp (am_cp (am_cp (am_cp M 2 57 60) 3 58 60) 4 59 60) 5 60 60) 6 61 3) 7 62 8) 8 63 8) 1 7)) 1 8)) 1 9)) 56 10 ((am_up (am_up (am_up (am_cp (am_cp (am_cp (am_cp (am_cp (am_cp (am_cp M 2 57 60) 3 58 60) 4 59 60) 5 60 60) 6 61 3) 7 62 8) 8 63 8) 56 7 ((am_cp (am_cp (am_cp (am_cp (am_cp (am_cp (am_cp M 2 57 60) 3 58 60) 4 59 60) 5 60 60) 6 61 3) 7 62 8) 8 63 8) 1 7)) 56 8 ((am_up (am_cp (am_cp (am_cp (am_cp (am_cp (am_cp (am_cp M 2 57 60) 3 58 60) 4 59 60) 5 60 60) 6 61 3) 7 62 8) 8 63 8) 56 7 ((am_cp (am_cp (am_cp (am_cp (am_cp (am_cp (am_cp M 2 57 60) 3 58 60) 4 59 60) 5 60 60) 6 61 3) 7 62 8) 8 63 8) 1 7)) 1 8)) 56 9 ((am_up (am_up (am_cp (am_cp (am_cp (am_cp (am_cp (am_cp (am_cp M 2 57 60) 3 58 60) 4 59 60) 5 60 60) 6 61 3) 7 62 8) 8 63 8) 56 7 ((am_cp (am_cp (am_cp (am_cp (am_cp (am_cp (am_cp M 2 57 60) 3 58 60) 4 59 60) 5 60 60) 6 61 3) 7 62 8) 8 63 8) 1 7)) 56 8 ((am_up (am_cp (am_cp (am_cp (am_cp (am_cp (am_cp (am_cp M 2 57 60) 3 58 60) 4 59 60) 5 60 60) 6 61 3) 7 62 8) 8 63 8) 56 7 ((am_cp (am_cp (am_cp (am_cp (am_cp (am_cp (am_cp M 2 57 60) 3 58 60) 4 59 60) 5 60 60) 6 61 3) 7 62 8) 8 63 8) 1 7)) 1 8)) 1 9)) 1 10))) rfl ⟨⟨by decide, by decide⟩, ⟨rfl, rfl, by decide, by decide, by decide, by decide⟩, ⟨by decide, by decide⟩, ⟨rfl, rfl, by decide, by decide, by decide, by decide⟩, ⟨by decide, by decide⟩, ⟨rfl, rfl, by decide, by decide, by decide, by decide⟩, ⟨by decide, by decide⟩, ⟨rfl, rfl, by decide, by decide, by decide, by decide⟩, ⟨rfl, rfl, by decide, by decide, by decide, by decide⟩, ⟨by decide, by decide⟩, ⟨rfl, rfl, by decide, by decide, by decide, by decide⟩, ⟨by decide, by decide⟩, ⟨rfl, rfl, by decide, by decide, by decide, by decide⟩, trivial⟩ ?_
  exact am_Wretv rfl rfl h
abbrev dt_X0_remember : am_D := (tk_X0_remember, 0, 3, none, tb_hn 1)
def wj_X0_remember_32 (Q : am_M → Prop) (M : am_M) : Prop := wp_X0_rowAt ((M 14 1) + (M 14 2)) M (fun x1 M2 => (x1 = none ∨ x1 = some 16 ∨ x1 = some 24 ∨ x1 = some 32 ∨ x1 = some 40 ∨ x1 = some 48 ∨ x1 = some 56) ∧ (x1 = none → Q M2) ∧ (x1 = some 16 → wp_X2_copyFrom_16_1 M2 (fun M3 => Q (am_up M3 14 2 ((M3 14 2) + 1)))) ∧ (x1 = some 24 → wp_X2_copyFrom_24_1 M2 (fun M4 => Q (am_up M4 14 2 ((M4 14 2) + 1)))) ∧ (x1 = some 32 → wp_X2_copyFrom_32_1 M2 (fun M5 => Q (am_up M5 14 2 ((M5 14 2) + 1)))) ∧ (x1 = some 40 → wp_X2_copyFrom_40_1 M2 (fun M6 => Q (am_up M6 14 2 ((M6 14 2) + 1)))) ∧ (x1 = some 48 → wp_X2_copyFrom_48_1 M2 (fun M7 => Q (am_up M7 14 2 ((M7 14 2) + 1)))) ∧ (x1 = some 56 → wp_X2_copyFrom_56_1 M2 (fun M8 => Q (am_up M8 14 2 ((M8 14 2) + 1)))))
def wp_X0_remember (M : am_M) (Q : am_M → Prop) : Prop := (am_rg (M 14 2)) ∧ (¬ (M 14 2) = 6 → wj_X0_remember_32 Q  M) ∧ (¬ (¬ (M 14 2) = 6) → (am_rg ((M 14 1) + 1) ∧ am_rg 6 ∧ (0 : Int) < 6) ∧ (wj_X0_remember_32 Q  (am_up (am_up M 14 1 (Int.tmod ((M 14 1) + 1) 6)) 14 2 (((am_up M 14 1 (Int.tmod ((M 14 1) + 1) 6)) 14 2) - 1))))
set_option maxRecDepth 20000 in
theorem tj_X0_remember_32 {Q : am_M → Prop} {QX : am_X} (M : am_M) (h : wj_X0_remember_32 Q M) : am_W (am_CC 2) dt_X0_remember 2 0 none (am_QV Q) QX (0, 32, [(0, .inr (.inl (some 14))), (1, .inr (.inl (some 1)))], [], M) := by
  refine am_Wrun 6 (ps := []) (pc' := 42) (lv' := [(0, .inr (.inl (some 14))), (1, .inr (.inl (some 1)))]) (st' := [.inl ((M 14 1) + (M 14 2)), .inr (.inl (some 14))]) (M' := M) rfl trivial ?_
  refine am_WcallV (y := 2) (n := 2) (a := 14) (f := 45) (as := [.inl ((M 14 1) + (M 14 2))]) (st' := []) rfl rfl rfl rfl rfl rfl rfl rfl rfl rfl (Nat.zero_le _) rfl (am_CC_le (Nat.le_of_ble_eq_true rfl) (tm_X0_rowAt h)) (fun r M2 q => ?_) (fun _ _ q => q.elim)
  obtain ⟨x1, rfl, h⟩ := q
  obtain ⟨hor, g0, g1, g2, g3, g4, g5, g6⟩ := h
  rcases hor with rfl | rfl | rfl | rfl | rfl | rfl | rfl
  · have h := g0 rfl
    refine am_Wrun 2 (ps := []) (pc' := 47) (lv' := [(2, .inr (.inl none)), (0, .inr (.inl (some 14))), (1, .inr (.inl (some 1)))]) (st' := [.inr (.inl none)]) (M' := M2) rfl trivial ?_
    refine am_Wbr (P := []) (c := (none : Option Nat) = none) (t := 65) (f := 50) (st' := []) rfl rfl trivial rfl (fun q => ?_) (fun q => absurd rfl q)
    exact am_Wretv rfl rfl h
  · have h := g1 rfl
    refine am_Wrun 2 (ps := []) (pc' := 47) (lv' := [(2, .inr (.inl (some 16))), (0, .inr (.inl (some 14))), (1, .inr (.inl (some 1)))]) (st' := [.inr (.inl (some 16))]) (M' := M2) rfl trivial ?_
    refine am_Wbr (P := []) (c := (some 16) = none) (t := 65) (f := 50) (st' := []) rfl rfl trivial rfl (fun q => absurd q (by simp)) (fun q => ?_)
    refine am_Wrun 2 (ps := []) (pc' := 52) (lv' := [(2, .inr (.inl (some 16))), (0, .inr (.inl (some 14))), (1, .inr (.inl (some 1)))]) (st' := [.inr (.inl (some 1)), .inr (.inl (some 16))]) (M' := M2) rfl trivial ?_
    refine am_WcallV (y := 4) (n := 2) (a := 16) (f := 55) (as := [.inr (.inl (some 1))]) (st' := []) rfl rfl rfl rfl rfl rfl rfl rfl rfl rfl (Nat.zero_le _) rfl (am_CC_le (Nat.le_of_ble_eq_true rfl) (tm_X2_copyFrom_16_1 h)) (fun r M3 q => ?_) (fun _ _ q => q.elim)
    obtain ⟨rfl, h⟩ := q
    refine am_Wrun 6 (ps := []) (pc' := 65) (lv' := [(2, .inr (.inl (some 16))), (0, .inr (.inl (some 14))), (1, .inr (.inl (some 1)))]) (st' := []) (M' := (am_up M3 14 2 ((M3 14 2) + 1))) rfl trivial ?_
    exact am_Wretv rfl rfl h
  · have h := g2 rfl
    refine am_Wrun 2 (ps := []) (pc' := 47) (lv' := [(2, .inr (.inl (some 24))), (0, .inr (.inl (some 14))), (1, .inr (.inl (some 1)))]) (st' := [.inr (.inl (some 24))]) (M' := M2) rfl trivial ?_
    refine am_Wbr (P := []) (c := (some 24) = none) (t := 65) (f := 50) (st' := []) rfl rfl trivial rfl (fun q => absurd q (by simp)) (fun q => ?_)
    refine am_Wrun 2 (ps := []) (pc' := 52) (lv' := [(2, .inr (.inl (some 24))), (0, .inr (.inl (some 14))), (1, .inr (.inl (some 1)))]) (st' := [.inr (.inl (some 1)), .inr (.inl (some 24))]) (M' := M2) rfl trivial ?_
    refine am_WcallV (y := 4) (n := 2) (a := 24) (f := 55) (as := [.inr (.inl (some 1))]) (st' := []) rfl rfl rfl rfl rfl rfl rfl rfl rfl rfl (Nat.zero_le _) rfl (am_CC_le (Nat.le_of_ble_eq_true rfl) (tm_X2_copyFrom_24_1 h)) (fun r M4 q => ?_) (fun _ _ q => q.elim)
    obtain ⟨rfl, h⟩ := q
    refine am_Wrun 6 (ps := []) (pc' := 65) (lv' := [(2, .inr (.inl (some 24))), (0, .inr (.inl (some 14))), (1, .inr (.inl (some 1)))]) (st' := []) (M' := (am_up M4 14 2 ((M4 14 2) + 1))) rfl trivial ?_
    exact am_Wretv rfl rfl h
  · have h := g3 rfl
    refine am_Wrun 2 (ps := []) (pc' := 47) (lv' := [(2, .inr (.inl (some 32))), (0, .inr (.inl (some 14))), (1, .inr (.inl (some 1)))]) (st' := [.inr (.inl (some 32))]) (M' := M2) rfl trivial ?_
    refine am_Wbr (P := []) (c := (some 32) = none) (t := 65) (f := 50) (st' := []) rfl rfl trivial rfl (fun q => absurd q (by simp)) (fun q => ?_)
    refine am_Wrun 2 (ps := []) (pc' := 52) (lv' := [(2, .inr (.inl (some 32))), (0, .inr (.inl (some 14))), (1, .inr (.inl (some 1)))]) (st' := [.inr (.inl (some 1)), .inr (.inl (some 32))]) (M' := M2) rfl trivial ?_
    refine am_WcallV (y := 4) (n := 2) (a := 32) (f := 55) (as := [.inr (.inl (some 1))]) (st' := []) rfl rfl rfl rfl rfl rfl rfl rfl rfl rfl (Nat.zero_le _) rfl (am_CC_le (Nat.le_of_ble_eq_true rfl) (tm_X2_copyFrom_32_1 h)) (fun r M5 q => ?_) (fun _ _ q => q.elim)
    obtain ⟨rfl, h⟩ := q
    refine am_Wrun 6 (ps := []) (pc' := 65) (lv' := [(2, .inr (.inl (some 32))), (0, .inr (.inl (some 14))), (1, .inr (.inl (some 1)))]) (st' := []) (M' := (am_up M5 14 2 ((M5 14 2) + 1))) rfl trivial ?_
    exact am_Wretv rfl rfl h
  · have h := g4 rfl
    refine am_Wrun 2 (ps := []) (pc' := 47) (lv' := [(2, .inr (.inl (some 40))), (0, .inr (.inl (some 14))), (1, .inr (.inl (some 1)))]) (st' := [.inr (.inl (some 40))]) (M' := M2) rfl trivial ?_
    refine am_Wbr (P := []) (c := (some 40) = none) (t := 65) (f := 50) (st' := []) rfl rfl trivial rfl (fun q => absurd q (by simp)) (fun q => ?_)
    refine am_Wrun 2 (ps := []) (pc' := 52) (lv' := [(2, .inr (.inl (some 40))), (0, .inr (.inl (some 14))), (1, .inr (.inl (some 1)))]) (st' := [.inr (.inl (some 1)), .inr (.inl (some 40))]) (M' := M2) rfl trivial ?_
    refine am_WcallV (y := 4) (n := 2) (a := 40) (f := 55) (as := [.inr (.inl (some 1))]) (st' := []) rfl rfl rfl rfl rfl rfl rfl rfl rfl rfl (Nat.zero_le _) rfl (am_CC_le (Nat.le_of_ble_eq_true rfl) (tm_X2_copyFrom_40_1 h)) (fun r M6 q => ?_) (fun _ _ q => q.elim)
    obtain ⟨rfl, h⟩ := q
    refine am_Wrun 6 (ps := []) (pc' := 65) (lv' := [(2, .inr (.inl (some 40))), (0, .inr (.inl (some 14))), (1, .inr (.inl (some 1)))]) (st' := []) (M' := (am_up M6 14 2 ((M6 14 2) + 1))) rfl trivial ?_
    exact am_Wretv rfl rfl h
  · have h := g5 rfl
    refine am_Wrun 2 (ps := []) (pc' := 47) (lv' := [(2, .inr (.inl (some 48))), (0, .inr (.inl (some 14))), (1, .inr (.inl (some 1)))]) (st' := [.inr (.inl (some 48))]) (M' := M2) rfl trivial ?_
    refine am_Wbr (P := []) (c := (some 48) = none) (t := 65) (f := 50) (st' := []) rfl rfl trivial rfl (fun q => absurd q (by simp)) (fun q => ?_)
    refine am_Wrun 2 (ps := []) (pc' := 52) (lv' := [(2, .inr (.inl (some 48))), (0, .inr (.inl (some 14))), (1, .inr (.inl (some 1)))]) (st' := [.inr (.inl (some 1)), .inr (.inl (some 48))]) (M' := M2) rfl trivial ?_
    refine am_WcallV (y := 4) (n := 2) (a := 48) (f := 55) (as := [.inr (.inl (some 1))]) (st' := []) rfl rfl rfl rfl rfl rfl rfl rfl rfl rfl (Nat.zero_le _) rfl (am_CC_le (Nat.le_of_ble_eq_true rfl) (tm_X2_copyFrom_48_1 h)) (fun r M7 q => ?_) (fun _ _ q => q.elim)
    obtain ⟨rfl, h⟩ := q
    refine am_Wrun 6 (ps := []) (pc' := 65) (lv' := [(2, .inr (.inl (some 48))), (0, .inr (.inl (some 14))), (1, .inr (.inl (some 1)))]) (st' := []) (M' := (am_up M7 14 2 ((M7 14 2) + 1))) rfl trivial ?_
    exact am_Wretv rfl rfl h
  · have h := g6 rfl
    refine am_Wrun 2 (ps := []) (pc' := 47) (lv' := [(2, .inr (.inl (some 56))), (0, .inr (.inl (some 14))), (1, .inr (.inl (some 1)))]) (st' := [.inr (.inl (some 56))]) (M' := M2) rfl trivial ?_
    refine am_Wbr (P := []) (c := (some 56) = none) (t := 65) (f := 50) (st' := []) rfl rfl trivial rfl (fun q => absurd q (by simp)) (fun q => ?_)
    refine am_Wrun 2 (ps := []) (pc' := 52) (lv' := [(2, .inr (.inl (some 56))), (0, .inr (.inl (some 14))), (1, .inr (.inl (some 1)))]) (st' := [.inr (.inl (some 1)), .inr (.inl (some 56))]) (M' := M2) rfl trivial ?_
    refine am_WcallV (y := 4) (n := 2) (a := 56) (f := 55) (as := [.inr (.inl (some 1))]) (st' := []) rfl rfl rfl rfl rfl rfl rfl rfl rfl rfl (Nat.zero_le _) rfl (am_CC_le (Nat.le_of_ble_eq_true rfl) (tm_X2_copyFrom_56_1 h)) (fun r M8 q => ?_) (fun _ _ q => q.elim)
    obtain ⟨rfl, h⟩ := q
    refine am_Wrun 6 (ps := []) (pc' := 65) (lv' := [(2, .inr (.inl (some 56))), (0, .inr (.inl (some 14))), (1, .inr (.inl (some 1)))]) (st' := []) (M' := (am_up M8 14 2 ((M8 14 2) + 1))) rfl trivial ?_
    exact am_Wretv rfl rfl h
set_option maxRecDepth 20000 in
theorem tm_X0_remember {M : am_M} {Q : am_M → Prop} (h : wp_X0_remember M Q) : am_CC 3 1 [.inr (.inl (some 14)), .inr (.inl (some 1))] M (am_QV Q) (fun _ _ => False) := by
  refine ⟨Nat.le_of_ble_eq_true rfl, ?_⟩
  show am_W (am_CC 2) dt_X0_remember 2 0 none (am_QV Q) (am_qx 1 (fun _ _ => False)) (0, 0, [(0, .inr (.inl (some 14))), (1, .inr (.inl (some 1)))], [], M)
  refine am_Wrun 3 (ps := [-128 ≤ (6 : Int) ∧ (6 : Int) ≤ 127]) (pc' := 6) (lv' := [(0, .inr (.inl (some 14))), (1, .inr (.inl (some 1)))]) (st' := [.inl (6), .inl (M 14 2)]) (M' := M) rfl ⟨⟨by decide, by decide⟩, trivial⟩ ?_
  obtain ⟨b0, ht, hf⟩ := h
  refine am_Wbr (P := [am_rg (M 14 2), am_rg 6]) (c := ¬ (M 14 2) = 6) (t := 32) (f := 9) (st' := []) rfl rfl ⟨b0, (am_rgd rfl), trivial⟩ rfl (fun q => ?_) (fun q => ?_)
  · have h := ht q
    refine am_W_sub [0, 1] rfl ?_
    exact tj_X0_remember_32  M h
  · have h := hf q
    obtain ⟨c1_0, h⟩ := h
    refine am_Wrun 14 (ps := [-128 ≤ (6 : Int) ∧ (6 : Int) ≤ 127, am_rg ((M 14 1) + 1) ∧ am_rg 6 ∧ (0 : Int) < 6]) (pc' := 32) (lv' := [(0, .inr (.inl (some 14))), (1, .inr (.inl (some 1)))]) (st' := []) (M' := (am_up (am_up M 14 1 (Int.tmod ((M 14 1) + 1) 6)) 14 2 (((am_up M 14 1 (Int.tmod ((M 14 1) + 1) 6)) 14 2) - 1))) rfl ⟨⟨by decide, by decide⟩, c1_0, trivial⟩ ?_
    refine am_W_sub [0, 1] rfl ?_
    exact tj_X0_remember_32  (am_up (am_up M 14 1 (Int.tmod ((M 14 1) + 1) 6)) 14 2 (((am_up M 14 1 (Int.tmod ((M 14 1) + 1) 6)) 14 2) - 1)) h
abbrev dt_X2_copyPoint : am_D := (tk_X2_copyPoint, 2, 3, none, tb_hn 38)
def wp_X2_copyPoint (a0 : Int) (a1 : Int) (M : am_M) (Q : am_M → Prop) : Prop := (am_rg a0) ∧ (a0 < 0 → Q M) ∧ (¬ a0 < 0 → (am_rg a0) ∧ (60 ≤ a0 → Q M) ∧ (¬ 60 ≤ a0 → (am_rg a1) ∧ (a1 < 0 → Q M) ∧ (¬ a1 < 0 → (am_rg a1) ∧ (60 ≤ a1 → Q M) ∧ (¬ 60 ≤ a1 → (0 ≤ (a0 : Int) ∧ (a0 : Int) < 60) ∧ (0 ≤ (a1 : Int) ∧ (a1 : Int) < 60) ∧ (0 ≤ (a0 : Int) ∧ (a0 : Int) < 60) ∧ (0 ≤ (a1 : Int) ∧ (a1 : Int) < 60) ∧ (0 ≤ (a0 : Int) ∧ (a0 : Int) < 60) ∧ (0 ≤ (a1 : Int) ∧ (a1 : Int) < 60) ∧ (Q (am_up (am_up (am_up M 2 a1 (M 2 a0)) 3 a1 ((am_up M 2 a1 (M 2 a0)) 3 a0)) 4 a1 ((am_up (am_up M 2 a1 (M 2 a0)) 3 a1 ((am_up M 2 a1 (M 2 a0)) 3 a0)) 4 a0)))))))
set_option maxRecDepth 20000 in
theorem tm_X2_copyPoint {a0 a1 : Int} {M : am_M} {Q : am_M → Prop} (h : wp_X2_copyPoint a0 a1 M Q) : am_CC 1 38 [.inr (.inl (some 1)), .inl (a0), .inl (a1)] M (am_QV Q) (fun _ _ => False) := by
  refine ⟨Nat.le_of_ble_eq_true rfl, ?_⟩
  show am_W (am_CC 0) dt_X2_copyPoint 0 0 none (am_QV Q) (am_qx 38 (fun _ _ => False)) (0, 0, [(0, .inr (.inl (some 1))), (1, .inl (a0)), (2, .inl (a1))], [], M)
  refine am_Wrun 1 (ps := []) (pc' := 1) (lv' := [(0, .inr (.inl (some 1))), (1, .inl (a0)), (2, .inl (a1))]) (st' := [.inl (a0)]) (M' := M) rfl trivial ?_
  obtain ⟨b0, ht, hf⟩ := h
  refine am_Wbr (P := [am_rg a0]) (c := a0 < 0) (t := 56) (f := 4) (st' := []) rfl rfl ⟨b0, trivial⟩ rfl (fun q => ?_) (fun q => ?_)
  · have h := ht q
    exact am_Wretv rfl rfl h
  · have h := hf q
    refine am_Wrun 2 (ps := [-128 ≤ (60 : Int) ∧ (60 : Int) ≤ 127]) (pc' := 7) (lv' := [(0, .inr (.inl (some 1))), (1, .inl (a0)), (2, .inl (a1))]) (st' := [.inl (60), .inl (a0)]) (M' := M) rfl ⟨⟨by decide, by decide⟩, trivial⟩ ?_
    obtain ⟨b0, ht, hf⟩ := h
    refine am_Wbr (P := [am_rg a0, am_rg 60]) (c := 60 ≤ a0) (t := 56) (f := 10) (st' := []) rfl rfl ⟨b0, (am_rgd rfl), trivial⟩ rfl (fun q => ?_) (fun q => ?_)
    · have h := ht q
      exact am_Wretv rfl rfl h
    · have h := hf q
      refine am_Wrun 1 (ps := []) (pc' := 11) (lv' := [(0, .inr (.inl (some 1))), (1, .inl (a0)), (2, .inl (a1))]) (st' := [.inl (a1)]) (M' := M) rfl trivial ?_
      obtain ⟨b0, ht, hf⟩ := h
      refine am_Wbr (P := [am_rg a1]) (c := a1 < 0) (t := 56) (f := 14) (st' := []) rfl rfl ⟨b0, trivial⟩ rfl (fun q => ?_) (fun q => ?_)
      · have h := ht q
        exact am_Wretv rfl rfl h
      · have h := hf q
        refine am_Wrun 2 (ps := [-128 ≤ (60 : Int) ∧ (60 : Int) ≤ 127]) (pc' := 17) (lv' := [(0, .inr (.inl (some 1))), (1, .inl (a0)), (2, .inl (a1))]) (st' := [.inl (60), .inl (a1)]) (M' := M) rfl ⟨⟨by decide, by decide⟩, trivial⟩ ?_
        obtain ⟨b0, ht, hf⟩ := h
        refine am_Wbr (P := [am_rg a1, am_rg 60]) (c := 60 ≤ a1) (t := 56) (f := 20) (st' := []) rfl rfl ⟨b0, (am_rgd rfl), trivial⟩ rfl (fun q => ?_) (fun q => ?_)
        · have h := ht q
          exact am_Wretv rfl rfl h
        · have h := hf q
          obtain ⟨c0_0, c1_0, c2_0, c3_0, c4_0, c5_0, h⟩ := h
          refine am_Wrun 24 (ps := [0 ≤ (a0 : Int) ∧ (a0 : Int) < 60, 0 ≤ (a1 : Int) ∧ (a1 : Int) < 60, 0 ≤ (a0 : Int) ∧ (a0 : Int) < 60, 0 ≤ (a1 : Int) ∧ (a1 : Int) < 60, 0 ≤ (a0 : Int) ∧ (a0 : Int) < 60, 0 ≤ (a1 : Int) ∧ (a1 : Int) < 60]) (pc' := 56) (lv' := [(0, .inr (.inl (some 1))), (1, .inl (a0)), (2, .inl (a1))]) (st' := []) (M' := (am_up (am_up (am_up M 2 a1 (M 2 a0)) 3 a1 ((am_up M 2 a1 (M 2 a0)) 3 a0)) 4 a1 ((am_up (am_up M 2 a1 (M 2 a0)) 3 a1 ((am_up M 2 a1 (M 2 a0)) 3 a0)) 4 a0))) rfl ⟨c0_0, c1_0, c2_0, c3_0, c4_0, c5_0, trivial⟩ ?_
          exact am_Wretv rfl rfl h
abbrev dt_X2_removeRun : am_D := (tk_X2_removeRun, 2, 4, none, tb_hn 37)
def wl_X2_removeRun_23 (Q : am_M → Prop) : Nat → Int → Int → am_M → Prop
  | 0, _, _, _ => False
  | n + 1, v2, v3, M => (am_rg v3) ∧ (am_rg (M 1 7)) ∧ ((M 1 7) ≤ v3 → Q (am_up M 1 7 ((M 1 7) - v2))) ∧ (¬ (M 1 7) ≤ v3 → wp_X2_copyPoint v3 (v3 - v2) M (fun M1 => wl_X2_removeRun_23 Q n v2 (v3 + 1) M1))
def wp_X2_removeRun (a0 : Int) (a1 : Int) (M : am_M) (Q : am_M → Prop) : Prop := (am_rg a0) ∧ (a0 < 0 → Q M) ∧ (¬ a0 < 0 → (am_rg a1) ∧ (a1 < 0 → Q M) ∧ (¬ a1 < 0 → (am_rg (a0 + a1)) ∧ (am_rg (M 1 7)) ∧ ((a0 + a1) ≤ (M 1 7) → ∃ e23, wl_X2_removeRun_23 Q e23 a1 (a0 + a1) M) ∧ (¬ (a0 + a1) ≤ (M 1 7) → Q M)))
set_option maxRecDepth 20000 in
theorem tw_X2_removeRun_23 {Q : am_M → Prop} {QX : am_X} : ∀ (n : Nat) (v2 : Int) (v3 : Int) (M : am_M), wl_X2_removeRun_23 Q n v2 v3 M → am_W (am_CC 1) dt_X2_removeRun 1 0 none (am_QV Q) QX (0, 23, [(0, .inr (.inl (some 1))), (2, .inl (v2)), (3, .inl (v3))], [], M)
  | 0, _, _, _, h => h.elim
  | n + 1, v2, v3, M, h => by
    refine am_Wrun 3 (ps := []) (pc' := 28) (lv' := [(0, .inr (.inl (some 1))), (2, .inl (v2)), (3, .inl (v3))]) (st' := [.inl (M 1 7), .inl (v3)]) (M' := M) rfl trivial ?_
    obtain ⟨b0, b1, ht, hf⟩ := h
    refine am_Wbr (P := [am_rg v3, am_rg (M 1 7)]) (c := (M 1 7) ≤ v3) (t := 45) (f := 31) (st' := []) rfl rfl ⟨b0, b1, trivial⟩ rfl (fun q => ?_) (fun q => ?_)
    · have h := ht q
      refine am_Wrun 6 (ps := []) (pc' := 55) (lv' := [(0, .inr (.inl (some 1))), (2, .inl (v2)), (3, .inl (v3))]) (st' := []) (M' := (am_up M 1 7 ((M 1 7) - v2))) rfl trivial ?_
      exact am_Wretv rfl rfl h
    · have h := hf q
      refine am_Wrun 5 (ps := []) (pc' := 36) (lv' := [(0, .inr (.inl (some 1))), (2, .inl (v2)), (3, .inl (v3))]) (st' := [.inl (v3 - v2), .inl (v3), .inr (.inl (some 1))]) (M' := M) rfl trivial ?_
      refine am_WcallV (y := 38) (n := 3) (a := 1) (f := 39) (as := [.inl (v3), .inl (v3 - v2)]) (st' := []) rfl rfl rfl rfl rfl rfl rfl rfl rfl rfl (Nat.zero_le _) rfl (am_CC_le (Nat.le_of_ble_eq_true rfl) (tm_X2_copyPoint h)) (fun r M1 q => ?_) (fun _ _ q => q.elim)
      obtain ⟨rfl, h⟩ := q
      refine am_Wrun 2 (ps := []) (pc' := 23) (lv' := [(3, .inl (v3 + 1)), (0, .inr (.inl (some 1))), (2, .inl (v2))]) (st' := []) (M' := M1) rfl trivial ?_
      refine am_W_sub [1, 2, 0] rfl ?_
      exact tw_X2_removeRun_23 n v2 (v3 + 1) M1 h
set_option maxRecDepth 20000 in
theorem tm_X2_removeRun {a0 a1 : Int} {M : am_M} {Q : am_M → Prop} (h : wp_X2_removeRun a0 a1 M Q) : am_CC 2 37 [.inr (.inl (some 1)), .inl (a0), .inl (a1)] M (am_QV Q) (fun _ _ => False) := by
  refine ⟨Nat.le_of_ble_eq_true rfl, ?_⟩
  show am_W (am_CC 1) dt_X2_removeRun 1 0 none (am_QV Q) (am_qx 37 (fun _ _ => False)) (0, 0, [(0, .inr (.inl (some 1))), (1, .inl (a0)), (2, .inl (a1))], [], M)
  refine am_Wrun 1 (ps := []) (pc' := 1) (lv' := [(0, .inr (.inl (some 1))), (1, .inl (a0)), (2, .inl (a1))]) (st' := [.inl (a0)]) (M' := M) rfl trivial ?_
  obtain ⟨b0, ht, hf⟩ := h
  refine am_Wbr (P := [am_rg a0]) (c := a0 < 0) (t := 18) (f := 4) (st' := []) rfl rfl ⟨b0, trivial⟩ rfl (fun q => ?_) (fun q => ?_)
  · have h := ht q
    exact am_Wretv rfl rfl h
  · have h := hf q
    refine am_Wrun 1 (ps := []) (pc' := 5) (lv' := [(0, .inr (.inl (some 1))), (1, .inl (a0)), (2, .inl (a1))]) (st' := [.inl (a1)]) (M' := M) rfl trivial ?_
    obtain ⟨b0, ht, hf⟩ := h
    refine am_Wbr (P := [am_rg a1]) (c := a1 < 0) (t := 18) (f := 8) (st' := []) rfl rfl ⟨b0, trivial⟩ rfl (fun q => ?_) (fun q => ?_)
    · have h := ht q
      exact am_Wretv rfl rfl h
    · have h := hf q
      refine am_Wrun 5 (ps := []) (pc' := 15) (lv' := [(0, .inr (.inl (some 1))), (1, .inl (a0)), (2, .inl (a1))]) (st' := [.inl (M 1 7), .inl (a0 + a1)]) (M' := M) rfl trivial ?_
      obtain ⟨b0, b1, ht, hf⟩ := h
      refine am_Wbr (P := [am_rg (a0 + a1), am_rg (M 1 7)]) (c := (a0 + a1) ≤ (M 1 7)) (t := 19) (f := 18) (st' := []) rfl rfl ⟨b0, b1, trivial⟩ rfl (fun q => ?_) (fun q => ?_)
      · have h := ht q
        refine am_Wrun 4 (ps := []) (pc' := 23) (lv' := [(3, .inl (a0 + a1)), (0, .inr (.inl (some 1))), (1, .inl (a0)), (2, .inl (a1))]) (st' := []) (M' := M) rfl trivial ?_
        refine am_W_sub [1, 3, 0] rfl ?_
        obtain ⟨n23, h⟩ := h
        exact tw_X2_removeRun_23 n23 a1 (a0 + a1) M h
      · have h := hf q
        exact am_Wretv rfl rfl h
abbrev dt_X2_numberStretches : am_D := (tk_X2_numberStretches, 2, 3, none, tb_hn 40)
def wj_X2_numberStretches_43 (Q : am_M → Prop) (k4 : Int → Int → am_M → Prop) (v1 : Int) (v2 : Int) (M : am_M) : Prop := (0 ≤ (v2 : Int) ∧ (v2 : Int) < 60) ∧ (k4 v1 (v2 + 1) (am_up M 5 v2 v1))
def wl_X2_numberStretches_4 (Q : am_M → Prop) : Nat → Int → Int → am_M → Prop
  | 0, _, _, _ => False
  | n + 1, v1, v2, M => (am_rg v2) ∧ (am_rg (M 1 7)) ∧ ((M 1 7) ≤ v2 → Q M) ∧ (¬ (M 1 7) ≤ v2 → (am_rg v2) ∧ (v2 ≤ 0 → wj_X2_numberStretches_43 Q (wl_X2_numberStretches_4 Q n) v1 v2 M) ∧ (¬ v2 ≤ 0 → (0 ≤ (v2 : Int) ∧ (v2 : Int) < 60) ∧ (0 ≤ (v2 - 1 : Int) ∧ (v2 - 1 : Int) < 60) ∧ ((am_rg ((M 2 v2) - (M 2 (v2 - 1)))) ∧ (am_rg (M 6 1)) ∧ (((M 2 v2) - (M 2 (v2 - 1))) ≤ (M 6 1) → wj_X2_numberStretches_43 Q (wl_X2_numberStretches_4 Q n) v1 v2 M) ∧ (¬ ((M 2 v2) - (M 2 (v2 - 1))) ≤ (M 6 1) → wj_X2_numberStretches_43 Q (wl_X2_numberStretches_4 Q n) (v1 + 1) v2 M))))
def wp_X2_numberStretches (M : am_M) (Q : am_M → Prop) : Prop := ∃ e4, wl_X2_numberStretches_4 Q e4 0 0 M
set_option maxRecDepth 20000 in
theorem tj_X2_numberStretches_43 {Q : am_M → Prop} {QX : am_X} {k4 : Int → Int → am_M → Prop} (hk4 : ∀ (v1 : Int) (v2 : Int) (M : am_M), k4 v1 v2 M → am_W (am_CC 0) dt_X2_numberStretches 0 0 none (am_QV Q) QX (0, 4, [(0, .inr (.inl (some 1))), (1, .inl (v1)), (2, .inl (v2))], [], M)) (v1 : Int) (v2 : Int) (M : am_M) (h : wj_X2_numberStretches_43 Q k4 v1 v2 M) : am_W (am_CC 0) dt_X2_numberStretches 0 0 none (am_QV Q) QX (0, 43, [(0, .inr (.inl (some 1))), (1, .inl (v1)), (2, .inl (v2))], [], M) := by
  obtain ⟨c0_0, h⟩ := h
  refine am_Wrun 7 (ps := [0 ≤ (v2 : Int) ∧ (v2 : Int) < 60]) (pc' := 4) (lv' := [(2, .inl (v2 + 1)), (0, .inr (.inl (some 1))), (1, .inl (v1))]) (st' := []) (M' := (am_up M 5 v2 v1)) rfl ⟨c0_0, trivial⟩ ?_
  refine am_W_sub [1, 2, 0] rfl ?_
  exact hk4 v1 (v2 + 1) (am_up M 5 v2 v1) h
set_option maxRecDepth 20000 in
theorem tw_X2_numberStretches_4 {Q : am_M → Prop} {QX : am_X} : ∀ (n : Nat) (v1 : Int) (v2 : Int) (M : am_M), wl_X2_numberStretches_4 Q n v1 v2 M → am_W (am_CC 0) dt_X2_numberStretches 0 0 none (am_QV Q) QX (0, 4, [(0, .inr (.inl (some 1))), (1, .inl (v1)), (2, .inl (v2))], [], M)
  | 0, _, _, _, h => h.elim
  | n + 1, v1, v2, M, h => by
    refine am_Wrun 3 (ps := []) (pc' := 9) (lv' := [(0, .inr (.inl (some 1))), (1, .inl (v1)), (2, .inl (v2))]) (st' := [.inl (M 1 7), .inl (v2)]) (M' := M) rfl trivial ?_
    obtain ⟨b0, b1, ht, hf⟩ := h
    refine am_Wbr (P := [am_rg v2, am_rg (M 1 7)]) (c := (M 1 7) ≤ v2) (t := 56) (f := 12) (st' := []) rfl rfl ⟨b0, b1, trivial⟩ rfl (fun q => ?_) (fun q => ?_)
    · have h := ht q
      exact am_Wretv rfl rfl h
    · have h := hf q
      refine am_Wrun 1 (ps := []) (pc' := 13) (lv' := [(0, .inr (.inl (some 1))), (1, .inl (v1)), (2, .inl (v2))]) (st' := [.inl (v2)]) (M' := M) rfl trivial ?_
      obtain ⟨b0, ht, hf⟩ := h
      refine am_Wbr (P := [am_rg v2]) (c := v2 ≤ 0) (t := 43) (f := 16) (st' := []) rfl rfl ⟨b0, trivial⟩ rfl (fun q => ?_) (fun q => ?_)
      · have h := ht q
        refine am_W_sub [0, 1, 2] rfl ?_
        exact tj_X2_numberStretches_43 (tw_X2_numberStretches_4 n) v1 v2 M h
      · have h := hf q
        obtain ⟨c0_0, c1_0, h⟩ := h
        refine am_Wrun 15 (ps := [0 ≤ (v2 : Int) ∧ (v2 : Int) < 60, 0 ≤ (v2 - 1 : Int) ∧ (v2 - 1 : Int) < 60, 0 ≤ (1 : Int) ∧ (1 : Int) < 3]) (pc' := 37) (lv' := [(0, .inr (.inl (some 1))), (1, .inl (v1)), (2, .inl (v2))]) (st' := [.inl (M 6 1), .inl ((M 2 v2) - (M 2 (v2 - 1)))]) (M' := M) rfl ⟨c0_0, c1_0, ⟨by decide, by decide⟩, trivial⟩ ?_
        obtain ⟨b0, b1, ht, hf⟩ := h
        refine am_Wbr (P := [am_rg ((M 2 v2) - (M 2 (v2 - 1))), am_rg (M 6 1)]) (c := ((M 2 v2) - (M 2 (v2 - 1))) ≤ (M 6 1)) (t := 43) (f := 40) (st' := []) rfl rfl ⟨b0, b1, trivial⟩ rfl (fun q => ?_) (fun q => ?_)
        · have h := ht q
          refine am_W_sub [0, 1, 2] rfl ?_
          exact tj_X2_numberStretches_43 (tw_X2_numberStretches_4 n) v1 v2 M h
        · have h := hf q
          refine am_Wrun 1 (ps := []) (pc' := 43) (lv' := [(1, .inl (v1 + 1)), (0, .inr (.inl (some 1))), (2, .inl (v2))]) (st' := []) (M' := M) rfl trivial ?_
          refine am_W_sub [1, 0, 2] rfl ?_
          exact tj_X2_numberStretches_43 (tw_X2_numberStretches_4 n) (v1 + 1) v2 M h
set_option maxRecDepth 20000 in
theorem tm_X2_numberStretches {M : am_M} {Q : am_M → Prop} (h : wp_X2_numberStretches M Q) : am_CC 1 40 [.inr (.inl (some 1))] M (am_QV Q) (fun _ _ => False) := by
  refine ⟨Nat.le_of_ble_eq_true rfl, ?_⟩
  show am_W (am_CC 0) dt_X2_numberStretches 0 0 none (am_QV Q) (am_qx 40 (fun _ _ => False)) (0, 0, [(0, .inr (.inl (some 1)))], [], M)
  refine am_Wrun 4 (ps := []) (pc' := 4) (lv' := [(2, .inl (0)), (1, .inl (0)), (0, .inr (.inl (some 1)))]) (st' := []) (M' := M) rfl trivial ?_
  refine am_W_sub [2, 1, 0] rfl ?_
  obtain ⟨n4, h⟩ := h
  exact tw_X2_numberStretches_4 n4 0 0 M h
abbrev dt_X4_forget : am_D := (tk_X4_forget, 4, 1, none, tb_hn 41)
def wp_X4_forget (M : am_M) (Q : am_M → Prop) : Prop := Q (am_up M 10 5 0)
set_option maxRecDepth 20000 in
theorem tm_X4_forget {M : am_M} {Q : am_M → Prop} (h : wp_X4_forget M Q) : am_CC 1 41 [.inr (.inl (some 10))] M (am_QV Q) (fun _ _ => False) := by
  refine ⟨Nat.le_of_ble_eq_true rfl, ?_⟩
  show am_W (am_CC 0) dt_X4_forget 0 0 none (am_QV Q) (am_qx 41 (fun _ _ => False)) (0, 0, [(0, .inr (.inl (some 10)))], [], M)
  refine am_Wrun 3 (ps := [0 = 0 ∨ 0 = 1]) (pc' := 5) (lv' := [(0, .inr (.inl (some 10)))]) (st' := []) (M' := (am_up M 10 5 0)) rfl ⟨(Or.inl rfl), trivial⟩ ?_
  exact am_Wretv rfl rfl h
abbrev dt_X5_pointsChanged : am_D := (tk_X5_pointsChanged, 5, 1, none, tb_hn 39)
def wp_X5_pointsChanged (M : am_M) (Q : am_M → Prop) : Prop := wp_X2_numberStretches M (fun M1 => wp_X4_forget M1 (fun M2 => Q M2))
set_option maxRecDepth 20000 in
theorem tm_X5_pointsChanged {M : am_M} {Q : am_M → Prop} (h : wp_X5_pointsChanged M Q) : am_CC 2 39 [.inr (.inl (some 0))] M (am_QV Q) (fun _ _ => False) := by
  refine ⟨Nat.le_of_ble_eq_true rfl, ?_⟩
  show am_W (am_CC 1) dt_X5_pointsChanged 1 0 none (am_QV Q) (am_qx 39 (fun _ _ => False)) (0, 0, [(0, .inr (.inl (some 0)))], [], M)
  refine am_Wrun 2 (ps := []) (pc' := 4) (lv' := [(0, .inr (.inl (some 0)))]) (st' := [.inr (.inl (some 1))]) (M' := M) rfl trivial ?_
  refine am_WcallV (y := 40) (n := 1) (a := 1) (f := 7) (as := []) (st' := []) rfl rfl rfl rfl rfl rfl rfl rfl rfl rfl (Nat.zero_le _) rfl (am_CC_le (Nat.le_of_ble_eq_true rfl) (tm_X2_numberStretches h)) (fun r M1 q => ?_) (fun _ _ q => q.elim)
  obtain ⟨rfl, h⟩ := q
  refine am_Wrun 2 (ps := []) (pc' := 11) (lv' := [(0, .inr (.inl (some 0)))]) (st' := [.inr (.inl (some 10))]) (M' := M1) rfl trivial ?_
  refine am_WcallV (y := 41) (n := 1) (a := 10) (f := 14) (as := []) (st' := []) rfl rfl rfl rfl rfl rfl rfl rfl rfl rfl (Nat.zero_le _) rfl (am_CC_le (Nat.le_of_ble_eq_true rfl) (tm_X4_forget h)) (fun r M2 q => ?_) (fun _ _ q => q.elim)
  obtain ⟨rfl, h⟩ := q
  exact am_Wretv rfl rfl h
abbrev dt_X5_tear : am_D := (tk_X5_tear, 5, 3, some .int, tb_hn 32)
def wp_X5_tear (a0 : Int) (M : am_M) (Q : Int → am_M → Prop) (X : am_X) : Prop := wp_X5_refuseNoStretch a0 M (fun M1 => wp_X0_remember M1 (fun M2 => wp_X2_sizeOf a0 M2 (fun x3 M4 => wp_X2_firstOf a0 M4 (fun x5 M6 => wp_X2_removeRun x5 x3 M6 (fun M7 => wp_X5_pointsChanged (am_up M7 1 10 ((M7 1 10) + x3)) (fun M8 => Q x3 M8)))))) X
set_option maxRecDepth 20000 in
theorem tm_X5_tear {a0 : Int} {M : am_M} {Q : Int → am_M → Prop} {X : am_X} (h : wp_X5_tear a0 M Q X) : am_CC 7 32 [.inr (.inl (some 0)), .inl (a0)] M (am_QI Q) X := by
  refine ⟨Nat.le_of_ble_eq_true rfl, ?_⟩
  show am_W (am_CC 6) dt_X5_tear 6 0 none (am_QI Q) (am_qx 32 X) (0, 0, [(0, .inr (.inl (some 0))), (1, .inl (a0))], [], M)
  have hX : ∀ E M, X E M → am_qx 32 X E M := fun E M q => ⟨⟨rfl, by decide⟩, q⟩
  refine am_Wrun 2 (ps := []) (pc' := 2) (lv' := [(0, .inr (.inl (some 0))), (1, .inl (a0))]) (st' := [.inl (a0), .inr (.inl (some 0))]) (M' := M) rfl trivial ?_
  refine am_WcallV (y := 33) (n := 2) (a := 0) (f := 5) (as := [.inl (a0)]) (st' := []) rfl rfl rfl rfl rfl rfl rfl rfl rfl rfl (Nat.zero_le _) rfl (am_CC_le (Nat.le_of_ble_eq_true rfl) (tm_X5_refuseNoStretch h)) (fun r M1 q => ?_) (fun E M q => hX _ _ q)
  obtain ⟨rfl, h⟩ := q
  refine am_Wrun 4 (ps := []) (pc' := 13) (lv' := [(0, .inr (.inl (some 0))), (1, .inl (a0))]) (st' := [.inr (.inl (some 1)), .inr (.inl (some 14))]) (M' := M1) rfl trivial ?_
  refine am_WcallV (y := 1) (n := 2) (a := 14) (f := 16) (as := [.inr (.inl (some 1))]) (st' := []) rfl rfl rfl rfl rfl rfl rfl rfl rfl rfl (Nat.zero_le _) rfl (am_CC_le (Nat.le_of_ble_eq_true rfl) (tm_X0_remember h)) (fun r M2 q => ?_) (fun _ _ q => q.elim)
  obtain ⟨rfl, h⟩ := q
  refine am_Wrun 3 (ps := []) (pc' := 21) (lv' := [(0, .inr (.inl (some 0))), (1, .inl (a0))]) (st' := [.inl (a0), .inr (.inl (some 1))]) (M' := M2) rfl trivial ?_
  refine am_WcallV (y := 35) (n := 2) (a := 1) (f := 24) (as := [.inl (a0)]) (st' := []) rfl rfl rfl rfl rfl rfl rfl rfl rfl rfl (Nat.zero_le _) rfl (am_CC_le (Nat.le_of_ble_eq_true rfl) (tm_X2_sizeOf h)) (fun r M4 q => ?_) (fun _ _ q => q.elim)
  obtain ⟨x3, rfl, h⟩ := q
  refine am_Wrun 6 (ps := []) (pc' := 34) (lv' := [(2, .inl (x3)), (0, .inr (.inl (some 0))), (1, .inl (a0))]) (st' := [.inl (a0), .inr (.inl (some 1)), .inr (.inl (some 1))]) (M' := M4) rfl trivial ?_
  refine am_WcallV (y := 36) (n := 2) (a := 1) (f := 37) (as := [.inl (a0)]) (st' := [.inr (.inl (some 1))]) rfl rfl rfl rfl rfl rfl rfl rfl rfl rfl (Nat.zero_le _) rfl (am_CC_le (Nat.le_of_ble_eq_true rfl) (tm_X2_firstOf h)) (fun r M6 q => ?_) (fun _ _ q => q.elim)
  obtain ⟨x5, rfl, h⟩ := q
  refine am_Wrun 1 (ps := []) (pc' := 38) (lv' := [(2, .inl (x3)), (0, .inr (.inl (some 0))), (1, .inl (a0))]) (st' := [.inl (x3), .inl (x5), .inr (.inl (some 1))]) (M' := M6) rfl trivial ?_
  refine am_WcallV (y := 37) (n := 3) (a := 1) (f := 41) (as := [.inl (x5), .inl (x3)]) (st' := []) rfl rfl rfl rfl rfl rfl rfl rfl rfl rfl (Nat.zero_le _) rfl (am_CC_le (Nat.le_of_ble_eq_true rfl) (tm_X2_removeRun h)) (fun r M7 q => ?_) (fun _ _ q => q.elim)
  obtain ⟨rfl, h⟩ := q
  refine am_Wrun 8 (ps := []) (pc' := 55) (lv' := [(2, .inl (x3)), (0, .inr (.inl (some 0))), (1, .inl (a0))]) (st' := [.inr (.inl (some 0))]) (M' := (am_up M7 1 10 ((M7 1 10) + x3))) rfl trivial ?_
  refine am_WcallV (y := 39) (n := 1) (a := 0) (f := 58) (as := []) (st' := []) rfl rfl rfl rfl rfl rfl rfl rfl rfl rfl (Nat.zero_le _) rfl (am_CC_le (Nat.le_of_ble_eq_true rfl) (tm_X5_pointsChanged h)) (fun r M8 q => ?_) (fun _ _ q => q.elim)
  obtain ⟨rfl, h⟩ := q
  refine am_Wrun 1 (ps := []) (pc' := 59) (lv' := [(2, .inl (x3)), (0, .inr (.inl (some 0))), (1, .inl (a0))]) (st' := [.inl (x3)]) (M' := M8) rfl trivial ?_
  exact am_Wreti rfl rfl h
abbrev dt_X5_isSettingValue : am_D := (tk_X5_isSettingValue, 5, 2, some .boolean, tb_hn 44)
def wp_X5_isSettingValue (a0 : Int) (a1 : Int) (M : am_M) (Q : Int → am_M → Prop) : Prop := (am_rg a0) ∧ (¬ a0 = 0 → (am_rg a0) ∧ (¬ a0 = 1 → (am_rg a1) ∧ (a1 = 0 → Q 1 M) ∧ (¬ a1 = 0 → (am_rg a1) ∧ (¬ a1 = 1 → Q 0 M) ∧ (¬ (¬ a1 = 1) → Q 1 M))) ∧ (¬ (¬ a0 = 1) → (am_rg a1) ∧ (a1 < 1 → Q 0 M) ∧ (¬ a1 < 1 → (am_rg a1) ∧ (2000 < a1 → Q 0 M) ∧ (¬ 2000 < a1 → Q 1 M)))) ∧ (¬ (¬ a0 = 0) → (am_rg a1) ∧ (a1 < 0 → Q 0 M) ∧ (¬ a1 < 0 → (am_rg a1) ∧ (500 < a1 → Q 0 M) ∧ (¬ 500 < a1 → Q 1 M)))
set_option maxRecDepth 20000 in
theorem tm_X5_isSettingValue {a0 a1 : Int} {M : am_M} {Q : Int → am_M → Prop} (h : wp_X5_isSettingValue a0 a1 M Q) : am_CC 1 44 [.inl (a0), .inl (a1)] M (am_QI Q) (fun _ _ => False) := by
  refine ⟨Nat.le_of_ble_eq_true rfl, ?_⟩
  show am_W (am_CC 0) dt_X5_isSettingValue 0 0 none (am_QI Q) (am_qx 44 (fun _ _ => False)) (0, 0, [(0, .inl (a0)), (1, .inl (a1))], [], M)
  refine am_Wrun 1 (ps := []) (pc' := 1) (lv' := [(0, .inl (a0)), (1, .inl (a1))]) (st' := [.inl (a0)]) (M' := M) rfl trivial ?_
  obtain ⟨b0, ht, hf⟩ := h
  refine am_Wbr (P := [am_rg a0]) (c := ¬ a0 = 0) (t := 21) (f := 4) (st' := []) rfl rfl ⟨b0, trivial⟩ rfl (fun q => ?_) (fun q => ?_)
  · have h := ht q
    refine am_Wrun 2 (ps := []) (pc' := 23) (lv' := [(0, .inl (a0)), (1, .inl (a1))]) (st' := [.inl (1), .inl (a0)]) (M' := M) rfl trivial ?_
    obtain ⟨b0, ht, hf⟩ := h
    refine am_Wbr (P := [am_rg a0, am_rg 1]) (c := ¬ a0 = 1) (t := 44) (f := 26) (st' := []) rfl rfl ⟨b0, (am_rgd rfl), trivial⟩ rfl (fun q => ?_) (fun q => ?_)
    · have h := ht q
      refine am_Wrun 1 (ps := []) (pc' := 45) (lv' := [(0, .inl (a0)), (1, .inl (a1))]) (st' := [.inl (a1)]) (M' := M) rfl trivial ?_
      obtain ⟨b0, ht, hf⟩ := h
      refine am_Wbr (P := [am_rg a1]) (c := a1 = 0) (t := 53) (f := 48) (st' := []) rfl rfl ⟨b0, trivial⟩ rfl (fun q => ?_) (fun q => ?_)
      · have h := ht q
        refine am_Wrun 2 (ps := []) (pc' := 58) (lv' := [(0, .inl (a0)), (1, .inl (a1))]) (st' := [.inl (1)]) (M' := M) rfl trivial ?_
        exact am_Wretz rfl rfl (Or.inr rfl) h
      · have h := hf q
        refine am_Wrun 2 (ps := []) (pc' := 50) (lv' := [(0, .inl (a0)), (1, .inl (a1))]) (st' := [.inl (1), .inl (a1)]) (M' := M) rfl trivial ?_
        obtain ⟨b0, ht, hf⟩ := h
        refine am_Wbr (P := [am_rg a1, am_rg 1]) (c := ¬ a1 = 1) (t := 57) (f := 53) (st' := []) rfl rfl ⟨b0, (am_rgd rfl), trivial⟩ rfl (fun q => ?_) (fun q => ?_)
        · have h := ht q
          refine am_Wrun 1 (ps := []) (pc' := 58) (lv' := [(0, .inl (a0)), (1, .inl (a1))]) (st' := [.inl (0)]) (M' := M) rfl trivial ?_
          exact am_Wretz rfl rfl (Or.inl rfl) h
        · have h := hf q
          refine am_Wrun 2 (ps := []) (pc' := 58) (lv' := [(0, .inl (a0)), (1, .inl (a1))]) (st' := [.inl (1)]) (M' := M) rfl trivial ?_
          exact am_Wretz rfl rfl (Or.inr rfl) h
    · have h := hf q
      refine am_Wrun 2 (ps := []) (pc' := 28) (lv' := [(0, .inl (a0)), (1, .inl (a1))]) (st' := [.inl (1), .inl (a1)]) (M' := M) rfl trivial ?_
      obtain ⟨b0, ht, hf⟩ := h
      refine am_Wbr (P := [am_rg a1, am_rg 1]) (c := a1 < 1) (t := 42) (f := 31) (st' := []) rfl rfl ⟨b0, (am_rgd rfl), trivial⟩ rfl (fun q => ?_) (fun q => ?_)
      · have h := ht q
        refine am_Wrun 1 (ps := []) (pc' := 43) (lv' := [(0, .inl (a0)), (1, .inl (a1))]) (st' := [.inl (0)]) (M' := M) rfl trivial ?_
        exact am_Wretz rfl rfl (Or.inl rfl) h
      · have h := hf q
        refine am_Wrun 2 (ps := [-32768 ≤ (2000 : Int) ∧ (2000 : Int) ≤ 32767]) (pc' := 35) (lv' := [(0, .inl (a0)), (1, .inl (a1))]) (st' := [.inl (2000), .inl (a1)]) (M' := M) rfl ⟨⟨by decide, by decide⟩, trivial⟩ ?_
        obtain ⟨b0, ht, hf⟩ := h
        refine am_Wbr (P := [am_rg a1, am_rg 2000]) (c := 2000 < a1) (t := 42) (f := 38) (st' := []) rfl rfl ⟨b0, (am_rgd rfl), trivial⟩ rfl (fun q => ?_) (fun q => ?_)
        · have h := ht q
          refine am_Wrun 1 (ps := []) (pc' := 43) (lv' := [(0, .inl (a0)), (1, .inl (a1))]) (st' := [.inl (0)]) (M' := M) rfl trivial ?_
          exact am_Wretz rfl rfl (Or.inl rfl) h
        · have h := hf q
          refine am_Wrun 2 (ps := []) (pc' := 43) (lv' := [(0, .inl (a0)), (1, .inl (a1))]) (st' := [.inl (1)]) (M' := M) rfl trivial ?_
          exact am_Wretz rfl rfl (Or.inr rfl) h
  · have h := hf q
    refine am_Wrun 1 (ps := []) (pc' := 5) (lv' := [(0, .inl (a0)), (1, .inl (a1))]) (st' := [.inl (a1)]) (M' := M) rfl trivial ?_
    obtain ⟨b0, ht, hf⟩ := h
    refine am_Wbr (P := [am_rg a1]) (c := a1 < 0) (t := 19) (f := 8) (st' := []) rfl rfl ⟨b0, trivial⟩ rfl (fun q => ?_) (fun q => ?_)
    · have h := ht q
      refine am_Wrun 1 (ps := []) (pc' := 20) (lv' := [(0, .inl (a0)), (1, .inl (a1))]) (st' := [.inl (0)]) (M' := M) rfl trivial ?_
      exact am_Wretz rfl rfl (Or.inl rfl) h
    · have h := hf q
      refine am_Wrun 2 (ps := [-32768 ≤ (500 : Int) ∧ (500 : Int) ≤ 32767]) (pc' := 12) (lv' := [(0, .inl (a0)), (1, .inl (a1))]) (st' := [.inl (500), .inl (a1)]) (M' := M) rfl ⟨⟨by decide, by decide⟩, trivial⟩ ?_
      obtain ⟨b0, ht, hf⟩ := h
      refine am_Wbr (P := [am_rg a1, am_rg 500]) (c := 500 < a1) (t := 19) (f := 15) (st' := []) rfl rfl ⟨b0, (am_rgd rfl), trivial⟩ rfl (fun q => ?_) (fun q => ?_)
      · have h := ht q
        refine am_Wrun 1 (ps := []) (pc' := 20) (lv' := [(0, .inl (a0)), (1, .inl (a1))]) (st' := [.inl (0)]) (M' := M) rfl trivial ?_
        exact am_Wretz rfl rfl (Or.inl rfl) h
      · have h := hf q
        refine am_Wrun 2 (ps := []) (pc' := 20) (lv' := [(0, .inl (a0)), (1, .inl (a1))]) (st' := [.inl (1)]) (M' := M) rfl trivial ?_
        exact am_Wretz rfl rfl (Or.inr rfl) h
abbrev dt_X5_set : am_D := (tk_X5_set, 5, 4, some .int, tb_hn 42)
def wp_X5_set (a0 : Int) (a1 : Int) (M : am_M) (Q : Int → am_M → Prop) (X : am_X) : Prop := wp_X5_refuseNoSetting a0 M (fun M1 => wp_X5_isSettingValue a0 a1 M1 (fun x2 M3 => (am_rg x2) ∧ (¬ x2 = 0 → wp_X0_remember M3 (fun M4 => (0 ≤ (a0 : Int) ∧ (a0 : Int) < 3) ∧ (0 ≤ (a0 : Int) ∧ (a0 : Int) < 3) ∧ (wp_X5_pointsChanged (am_up M4 6 a0 a1) (fun M5 => Q (M4 6 a0) M5)))) ∧ (¬ (¬ x2 = 0) → X 0 M3))) X
set_option maxRecDepth 20000 in
theorem tm_X5_set {a0 a1 : Int} {M : am_M} {Q : Int → am_M → Prop} {X : am_X} (h : wp_X5_set a0 a1 M Q X) : am_CC 7 42 [.inr (.inl (some 0)), .inl (a0), .inl (a1)] M (am_QI Q) X := by
  refine ⟨Nat.le_of_ble_eq_true rfl, ?_⟩
  show am_W (am_CC 6) dt_X5_set 6 0 none (am_QI Q) (am_qx 42 X) (0, 0, [(0, .inr (.inl (some 0))), (1, .inl (a0)), (2, .inl (a1))], [], M)
  have hX : ∀ E M, X E M → am_qx 42 X E M := fun E M q => ⟨⟨rfl, by decide⟩, q⟩
  refine am_Wrun 1 (ps := []) (pc' := 1) (lv' := [(0, .inr (.inl (some 0))), (1, .inl (a0)), (2, .inl (a1))]) (st' := [.inl (a0)]) (M' := M) rfl trivial ?_
  refine am_WcallS (y := 43) (n := 1) (f := 4) (co := 0) (as := [.inl (a0)]) (st' := []) rfl rfl rfl rfl rfl rfl rfl rfl rfl (Nat.zero_le _) rfl (am_CC_le (Nat.le_of_ble_eq_true rfl) (tm_X5_refuseNoSetting h)) (fun r M1 q => ?_) (fun E M q => hX _ _ q)
  obtain ⟨rfl, h⟩ := q
  refine am_Wrun 2 (ps := []) (pc' := 6) (lv' := [(0, .inr (.inl (some 0))), (1, .inl (a0)), (2, .inl (a1))]) (st' := [.inl (a1), .inl (a0)]) (M' := M1) rfl trivial ?_
  refine am_WcallS (y := 44) (n := 2) (f := 9) (co := 0) (as := [.inl (a0), .inl (a1)]) (st' := []) rfl rfl rfl rfl rfl rfl rfl rfl rfl (Nat.zero_le _) rfl (am_CC_le (Nat.le_of_ble_eq_true rfl) (tm_X5_isSettingValue h)) (fun r M3 q => ?_) (fun _ _ q => q.elim)
  obtain ⟨x2, rfl, h⟩ := q
  obtain ⟨b0, ht, hf⟩ := h
  refine am_Wbr (P := [am_rg x2]) (c := ¬ x2 = 0) (t := 22) (f := 12) (st' := []) rfl rfl ⟨b0, trivial⟩ rfl (fun q => ?_) (fun q => ?_)
  · have h := ht q
    refine am_Wrun 4 (ps := []) (pc' := 30) (lv' := [(0, .inr (.inl (some 0))), (1, .inl (a0)), (2, .inl (a1))]) (st' := [.inr (.inl (some 1)), .inr (.inl (some 14))]) (M' := M3) rfl trivial ?_
    refine am_WcallV (y := 1) (n := 2) (a := 14) (f := 33) (as := [.inr (.inl (some 1))]) (st' := []) rfl rfl rfl rfl rfl rfl rfl rfl rfl rfl (Nat.zero_le _) rfl (am_CC_le (Nat.le_of_ble_eq_true rfl) (tm_X0_remember h)) (fun r M4 q => ?_) (fun _ _ q => q.elim)
    obtain ⟨rfl, h⟩ := q
    obtain ⟨c0_0, c1_0, h⟩ := h
    refine am_Wrun 13 (ps := [0 ≤ (a0 : Int) ∧ (a0 : Int) < 3, 0 ≤ (a0 : Int) ∧ (a0 : Int) < 3]) (pc' := 54) (lv' := [(3, .inl (M4 6 a0)), (0, .inr (.inl (some 0))), (1, .inl (a0)), (2, .inl (a1))]) (st' := [.inr (.inl (some 0))]) (M' := (am_up M4 6 a0 a1)) rfl ⟨c0_0, c1_0, trivial⟩ ?_
    refine am_WcallV (y := 39) (n := 1) (a := 0) (f := 57) (as := []) (st' := []) rfl rfl rfl rfl rfl rfl rfl rfl rfl rfl (Nat.zero_le _) rfl (am_CC_le (Nat.le_of_ble_eq_true rfl) (tm_X5_pointsChanged h)) (fun r M5 q => ?_) (fun _ _ q => q.elim)
    obtain ⟨rfl, h⟩ := q
    refine am_Wrun 1 (ps := []) (pc' := 58) (lv' := [(3, .inl (M4 6 a0)), (0, .inr (.inl (some 0))), (1, .inl (a0)), (2, .inl (a1))]) (st' := [.inl (M4 6 a0)]) (M' := M5) rfl trivial ?_
    exact am_Wreti rfl rfl h
  · have h := hf q
    exact am_Wthr (is := 92) (ic := 63) (E := 0) rfl (Nat.le_of_ble_eq_true rfl) rfl rfl rfl rfl (Or.inl ⟨rfl, rfl, rfl⟩) (hX _ _ h)
def wp_X2_copyFrom_1_16 (M : am_M) (Q : am_M → Prop) : Prop := Q (am_up (am_up (am_up (am_up (am_cp (am_cp (am_cp (am_cp (am_cp (am_cp (am_cp M 17 2 60) 18 3 60) 19 4 60) 20 5 60) 21 6 3) 22 7 8) 23 8 8) 1 7 ((am_cp (am_cp (am_cp (am_cp (am_cp (am_cp (am_cp M 17 2 60) 18 3 60) 19 4 60) 20 5 60) 21 6 3) 22 7 8) 23 8 8) 16 7)) 1 8 ((am_up (am_cp (am_cp (am_cp (am_cp (am_cp (am_cp (am_cp M 17 2 60) 18 3 60) 19 4 60) 20 5 60) 21 6 3) 22 7 8) 23 8 8) 1 7 ((am_cp (am_cp (am_cp (am_cp (am_cp (am_cp (am_cp M 17 2 60) 18 3 60) 19 4 60) 20 5 60) 21 6 3) 22 7 8) 23 8 8) 16 7)) 16 8)) 1 9 ((am_up (am_up (am_cp (am_cp (am_cp (am_cp (am_cp (am_cp (am_cp M 17 2 60) 18 3 60) 19 4 60) 20 5 60) 21 6 3) 22 7 8) 23 8 8) 1 7 ((am_cp (am_cp (am_cp (am_cp (am_cp (am_cp (am_cp M 17 2 60) 18 3 60) 19 4 60) 20 5 60) 21 6 3) 22 7 8) 23 8 8) 16 7)) 1 8 ((am_up (am_cp (am_cp (am_cp (am_cp (am_cp (am_cp (am_cp M 17 2 60) 18 3 60) 19 4 60) 20 5 60) 21 6 3) 22 7 8) 23 8 8) 1 7 ((am_cp (am_cp (am_cp (am_cp (am_cp (am_cp (am_cp M 17 2 60) 18 3 60) 19 4 60) 20 5 60) 21 6 3) 22 7 8) 23 8 8) 16 7)) 16 8)) 16 9)) 1 10 ((am_up (am_up (am_up (am_cp (am_cp (am_cp (am_cp (am_cp (am_cp (am_cp M 17 2 60) 18 3 60) 19 4 60) 20 5 60) 21 6 3) 22 7 8) 23 8 8) 1 7 ((am_cp (am_cp (am_cp (am_cp (am_cp (am_cp (am_cp M 17 2 60) 18 3 60) 19 4 60) 20 5 60) 21 6 3) 22 7 8) 23 8 8) 16 7)) 1 8 ((am_up (am_cp (am_cp (am_cp (am_cp (am_cp (am_cp (am_cp M 17 2 60) 18 3 60) 19 4 60) 20 5 60) 21 6 3) 22 7 8) 23 8 8) 1 7 ((am_cp (am_cp (am_cp (am_cp (am_cp (am_cp (am_cp M 17 2 60) 18 3 60) 19 4 60) 20 5 60) 21 6 3) 22 7 8) 23 8 8) 16 7)) 16 8)) 1 9 ((am_up (am_up (am_cp (am_cp (am_cp (am_cp (am_cp (am_cp (am_cp M 17 2 60) 18 3 60) 19 4 60) 20 5 60) 21 6 3) 22 7 8) 23 8 8) 1 7 ((am_cp (am_cp (am_cp (am_cp (am_cp (am_cp (am_cp M 17 2 60) 18 3 60) 19 4 60) 20 5 60) 21 6 3) 22 7 8) 23 8 8) 16 7)) 1 8 ((am_up (am_cp (am_cp (am_cp (am_cp (am_cp (am_cp (am_cp M 17 2 60) 18 3 60) 19 4 60) 20 5 60) 21 6 3) 22 7 8) 23 8 8) 1 7 ((am_cp (am_cp (am_cp (am_cp (am_cp (am_cp (am_cp M 17 2 60) 18 3 60) 19 4 60) 20 5 60) 21 6 3) 22 7 8) 23 8 8) 16 7)) 16 8)) 16 9)) 16 10))
set_option maxRecDepth 20000 in
theorem tm_X2_copyFrom_1_16 {M : am_M} {Q : am_M → Prop} (h : wp_X2_copyFrom_1_16 M Q) : am_CC 1 4 [.inr (.inl (some 1)), .inr (.inl (some 16))] M (am_QV Q) (fun _ _ => False) := by
  refine ⟨Nat.le_of_ble_eq_true rfl, ?_⟩
  show am_W (am_CC 0) dt_X2_copyFrom 0 0 none (am_QV Q) (am_qx 4 (fun _ _ => False)) (0, 0, [(0, .inr (.inl (some 1))), (1, .inr (.inl (some 16)))], [], M)
  refine am_Wrun 72 (ps := [-128 ≤ (60 : Int) ∧ (60 : Int) ≤ 127, (0 : Int) = 0 ∧ (0 : Int) = 0 ∧ (0 : Int) ≤ 60 ∧ (60 : Int) ≤ 60 ∧ (60 : Int) ≤ 60 ∧ am_cs [] ≤ 8, -128 ≤ (60 : Int) ∧ (60 : Int) ≤ 127, (0 : Int) = 0 ∧ (0 : Int) = 0 ∧ (0 : Int) ≤ 60 ∧ (60 : Int) ≤ 60 ∧ (60 : Int) ≤ 60 ∧ am_cs [] ≤ 8, -128 ≤ (60 : Int) ∧ (60 : Int) ≤ 127, (0 : Int) = 0 ∧ (0 : Int) = 0 ∧ (0 : Int) ≤ 60 ∧ (60 : Int) ≤ 60 ∧ (60 : Int) ≤ 60 ∧ am_cs [] ≤ 8, -128 ≤ (60 : Int) ∧ (60 : Int) ≤ 127, (0 : Int) = 0 ∧ (0 : Int) = 0 ∧ (0 : Int) ≤ 60 ∧ (60 : Int) ≤ 60 ∧ (60 : Int) ≤ 60 ∧ am_cs [] ≤ 8, (0 : Int) = 0 ∧ (0 : Int) = 0 ∧ (0 : Int) ≤ 3 ∧ (3 : Int) ≤ 3 ∧ (3 : Int) ≤ 3 ∧ am_cs [] ≤ 8, -128 ≤ (8 : Int) ∧ (8 : Int) ≤ 127, (0 : Int) = 0 ∧ (0 : Int) = 0 ∧ (0 : Int) ≤ 8 ∧ (8 : Int) ≤ 8 ∧ (8 : Int) ≤ 8 ∧ am_cs [] ≤ 8, -128 ≤ (8 : Int) ∧ (8 : Int) ≤ 127, (0 : Int) = 0 ∧ (0 : Int) = 0 ∧ (0 : Int) ≤ 8 ∧ (8 : Int) ≤ 8 ∧ (8 : Int) ≤ 8 ∧ am_cs [] ≤ 8]) (pc' := 136) (lv' := [(0, .inr (.inl (some 1))), (1, .inr (.inl (some 16)))]) (st' := []) (M' := (am_up (am_up (am_up (am_up (am_cp (am_cp (am_cp (am_cp (am_cp (am_cp (am_cp M 17 2 60) 18 3 60) 19 4 60) 20 5 60) 21 6 3) 22 7 8) 23 8 8) 1 7 ((am_cp (am_cp (am_cp (am_cp (am_cp (am_cp (am_cp M 17 2 60) 18 3 60) 19 4 60) 20 5 60) 21 6 3) 22 7 8) 23 8 8) 16 7)) 1 8 ((am_up (am_cp (am_cp (am_cp (am_cp (am_cp (am_cp (am_cp M 17 2 60) 18 3 60) 19 4 60) 20 5 60) 21 6 3) 22 7 8) 23 8 8) 1 7 ((am_cp (am_cp (am_cp (am_cp (am_cp (am_cp (am_cp M 17 2 60) 18 3 60) 19 4 60) 20 5 60) 21 6 3) 22 7 8) 23 8 8) 16 7)) 16 8)) 1 9 ((am_up (am_up (am_cp (am_cp (am_cp (am_cp (am_cp (am_cp (am_cp M 17 2 60) 18 3 60) 19 4 60) 20 5 60) 21 6 3) 22 7 8) 23 8 8) 1 7 ((am_cp (am_cp (am_cp (am_cp (am_cp (am_cp (am_cp M 17 2 60) 18 3 60) 19 4 60) 20 5 60) 21 6 3) 22 7 8) 23 8 8) 16 7)) 1 8 ((am_up (am_cp (am_cp (am_cp (am_cp (am_cp (am_cp (am_cp M 17 2 60) 18 3 60) 19 4 60) 20 5 60) 21 6 3) 22 7 8) 23 8 8) 1 7 ((am_cp (am_cp (am_cp (am_cp (am_cp (am_cp (am_cp M 17 2 60) 18 3 60) 19 4 60) 20 5 60) 21 6 3) 22 7 8) 23 8 8) 16 7)) 16 8)) 16 9)) 1 10 ((am_up (am_up (am_up (am_cp (am_cp (am_cp (am_cp (am_cp (am_cp (am_cp M 17 2 60) 18 3 60) 19 4 60) 20 5 60) 21 6 3) 22 7 8) 23 8 8) 1 7 ((am_cp (am_cp (am_cp (am_cp (am_cp (am_cp (am_cp M 17 2 60) 18 3 60) 19 4 60) 20 5 60) 21 6 3) 22 7 8) 23 8 8) 16 7)) 1 8 ((am_up (am_cp (am_cp (am_cp (am_cp (am_cp (am_cp (am_cp M 17 2 60) 18 3 60) 19 4 60) 20 5 60) 21 6 3) 22 7 8) 23 8 8) 1 7 ((am_cp (am_cp (am_cp (am_cp (am_cp (am_cp (am_cp M 17 2 60) 18 3 60) 19 4 60) 20 5 60) 21 6 3) 22 7 8) 23 8 8) 16 7)) 16 8)) 1 9 ((am_up (am_up (am_cp (am_cp (am_cp (am_cp (am_cp (am_cp (am_cp M 17 2 60) 18 3 60) 19 4 60) 20 5 60) 21 6 3) 22 7 8) 23 8 8) 1 7 ((am_cp (am_cp (am_cp (am_cp (am_cp (am_cp (am_cp M 17 2 60) 18 3 60) 19 4 60) 20 5 60) 21 6 3) 22 7 8) 23 8 8) 16 7)) 1 8 ((am_up (am_cp (am_cp (am_cp (am_cp (am_cp (am_cp (am_cp M 17 2 60) 18 3 60) 19 4 60) 20 5 60) 21 6 3) 22 7 8) 23 8 8) 1 7 ((am_cp (am_cp (am_cp (am_cp (am_cp (am_cp (am_cp M 17 2 60) 18 3 60) 19 4 60) 20 5 60) 21 6 3) 22 7 8) 23 8 8) 16 7)) 16 8)) 16 9)) 16 10))) rfl ⟨⟨by decide, by decide⟩, ⟨rfl, rfl, by decide, by decide, by decide, by decide⟩, ⟨by decide, by decide⟩, ⟨rfl, rfl, by decide, by decide, by decide, by decide⟩, ⟨by decide, by decide⟩, ⟨rfl, rfl, by decide, by decide, by decide, by decide⟩, ⟨by decide, by decide⟩, ⟨rfl, rfl, by decide, by decide, by decide, by decide⟩, ⟨rfl, rfl, by decide, by decide, by decide, by decide⟩, ⟨by decide, by decide⟩, ⟨rfl, rfl, by decide, by decide, by decide, by decide⟩, ⟨by decide, by decide⟩, ⟨rfl, rfl, by decide, by decide, by decide, by decide⟩, trivial⟩ ?_
  exact am_Wretv rfl rfl h
def wp_X2_copyFrom_1_24 (M : am_M) (Q : am_M → Prop) : Prop := Q (am_up (am_up (am_up (am_up (am_cp (am_cp (am_cp (am_cp (am_cp (am_cp (am_cp M 25 2 60) 26 3 60) 27 4 60) 28 5 60) 29 6 3) 30 7 8) 31 8 8) 1 7 ((am_cp (am_cp (am_cp (am_cp (am_cp (am_cp (am_cp M 25 2 60) 26 3 60) 27 4 60) 28 5 60) 29 6 3) 30 7 8) 31 8 8) 24 7)) 1 8 ((am_up (am_cp (am_cp (am_cp (am_cp (am_cp (am_cp (am_cp M 25 2 60) 26 3 60) 27 4 60) 28 5 60) 29 6 3) 30 7 8) 31 8 8) 1 7 ((am_cp (am_cp (am_cp (am_cp (am_cp (am_cp (am_cp M 25 2 60) 26 3 60) 27 4 60) 28 5 60) 29 6 3) 30 7 8) 31 8 8) 24 7)) 24 8)) 1 9 ((am_up (am_up (am_cp (am_cp (am_cp (am_cp (am_cp (am_cp (am_cp M 25 2 60) 26 3 60) 27 4 60) 28 5 60) 29 6 3) 30 7 8) 31 8 8) 1 7 ((am_cp (am_cp (am_cp (am_cp (am_cp (am_cp (am_cp M 25 2 60) 26 3 60) 27 4 60) 28 5 60) 29 6 3) 30 7 8) 31 8 8) 24 7)) 1 8 ((am_up (am_cp (am_cp (am_cp (am_cp (am_cp (am_cp (am_cp M 25 2 60) 26 3 60) 27 4 60) 28 5 60) 29 6 3) 30 7 8) 31 8 8) 1 7 ((am_cp (am_cp (am_cp (am_cp (am_cp (am_cp (am_cp M 25 2 60) 26 3 60) 27 4 60) 28 5 60) 29 6 3) 30 7 8) 31 8 8) 24 7)) 24 8)) 24 9)) 1 10 ((am_up (am_up (am_up (am_cp (am_cp (am_cp (am_cp (am_cp (am_cp (am_cp M 25 2 60) 26 3 60) 27 4 60) 28 5 60) 29 6 3) 30 7 8) 31 8 8) 1 7 ((am_cp (am_cp (am_cp (am_cp (am_cp (am_cp (am_cp M 25 2 60) 26 3 60) 27 4 60) 28 5 60) 29 6 3) 30 7 8) 31 8 8) 24 7)) 1 8 ((am_up (am_cp (am_cp (am_cp (am_cp (am_cp (am_cp (am_cp M 25 2 60) 26 3 60) 27 4 60) 28 5 60) 29 6 3) 30 7 8) 31 8 8) 1 7 ((am_cp (am_cp (am_cp (am_cp (am_cp (am_cp (am_cp M 25 2 60) 26 3 60) 27 4 60) 28 5 60) 29 6 3) 30 7 8) 31 8 8) 24 7)) 24 8)) 1 9 ((am_up (am_up (am_cp (am_cp (am_cp (am_cp (am_cp (am_cp (am_cp M 25 2 60) 26 3 60) 27 4 60) 28 5 60) 29 6 3) 30 7 8) 31 8 8) 1 7 ((am_cp (am_cp (am_cp (am_cp (am_cp (am_cp (am_cp M 25 2 60) 26 3 60) 27 4 60) 28 5 60) 29 6 3) 30 7 8) 31 8 8) 24 7)) 1 8 ((am_up (am_cp (am_cp (am_cp (am_cp (am_cp (am_cp (am_cp M 25 2 60) 26 3 60) 27 4 60) 28 5 60) 29 6 3) 30 7 8) 31 8 8) 1 7 ((am_cp (am_cp (am_cp (am_cp (am_cp (am_cp (am_cp M 25 2 60) 26 3 60) 27 4 60) 28 5 60) 29 6 3) 30 7 8) 31 8 8) 24 7)) 24 8)) 24 9)) 24 10))
set_option maxRecDepth 20000 in
theorem tm_X2_copyFrom_1_24 {M : am_M} {Q : am_M → Prop} (h : wp_X2_copyFrom_1_24 M Q) : am_CC 1 4 [.inr (.inl (some 1)), .inr (.inl (some 24))] M (am_QV Q) (fun _ _ => False) := by
  refine ⟨Nat.le_of_ble_eq_true rfl, ?_⟩
  show am_W (am_CC 0) dt_X2_copyFrom 0 0 none (am_QV Q) (am_qx 4 (fun _ _ => False)) (0, 0, [(0, .inr (.inl (some 1))), (1, .inr (.inl (some 24)))], [], M)
  refine am_Wrun 72 (ps := [-128 ≤ (60 : Int) ∧ (60 : Int) ≤ 127, (0 : Int) = 0 ∧ (0 : Int) = 0 ∧ (0 : Int) ≤ 60 ∧ (60 : Int) ≤ 60 ∧ (60 : Int) ≤ 60 ∧ am_cs [] ≤ 8, -128 ≤ (60 : Int) ∧ (60 : Int) ≤ 127, (0 : Int) = 0 ∧ (0 : Int) = 0 ∧ (0 : Int) ≤ 60 ∧ (60 : Int) ≤ 60 ∧ (60 : Int) ≤ 60 ∧ am_cs [] ≤ 8, -128 ≤ (60 : Int) ∧ (60 : Int) ≤ 127, (0 : Int) = 0 ∧ (0 : Int) = 0 ∧ (0 : Int) ≤ 60 ∧ (60 : Int) ≤ 60 ∧ (60 : Int) ≤ 60 ∧ am_cs [] ≤ 8, -128 ≤ (60 : Int) ∧ (60 : Int) ≤ 127, (0 : Int) = 0 ∧ (0 : Int) = 0 ∧ (0 : Int) ≤ 60 ∧ (60 : Int) ≤ 60 ∧ (60 : Int) ≤ 60 ∧ am_cs [] ≤ 8, (0 : Int) = 0 ∧ (0 : Int) = 0 ∧ (0 : Int) ≤ 3 ∧ (3 : Int) ≤ 3 ∧ (3 : Int) ≤ 3 ∧ am_cs [] ≤ 8, -128 ≤ (8 : Int) ∧ (8 : Int) ≤ 127, (0 : Int) = 0 ∧ (0 : Int) = 0 ∧ (0 : Int) ≤ 8 ∧ (8 : Int) ≤ 8 ∧ (8 : Int) ≤ 8 ∧ am_cs [] ≤ 8, -128 ≤ (8 : Int) ∧ (8 : Int) ≤ 127, (0 : Int) = 0 ∧ (0 : Int) = 0 ∧ (0 : Int) ≤ 8 ∧ (8 : Int) ≤ 8 ∧ (8 : Int) ≤ 8 ∧ am_cs [] ≤ 8]) (pc' := 136) (lv' := [(0, .inr (.inl (some 1))), (1, .inr (.inl (some 24)))]) (st' := []) (M' := (am_up (am_up (am_up (am_up (am_cp (am_cp (am_cp (am_cp (am_cp (am_cp (am_cp M 25 2 60) 26 3 60) 27 4 60) 28 5 60) 29 6 3) 30 7 8) 31 8 8) 1 7 ((am_cp (am_cp (am_cp (am_cp (am_cp (am_cp (am_cp M 25 2 60) 26 3 60) 27 4 60) 28 5 60) 29 6 3) 30 7 8) 31 8 8) 24 7)) 1 8 ((am_up (am_cp (am_cp (am_cp (am_cp (am_cp (am_cp (am_cp M 25 2 60) 26 3 60) 27 4 60) 28 5 60) 29 6 3) 30 7 8) 31 8 8) 1 7 ((am_cp (am_cp (am_cp (am_cp (am_cp (am_cp (am_cp M 25 2 60) 26 3 60) 27 4 60) 28 5 60) 29 6 3) 30 7 8) 31 8 8) 24 7)) 24 8)) 1 9 ((am_up (am_up (am_cp (am_cp (am_cp (am_cp (am_cp (am_cp (am_cp M 25 2 60) 26 3 60) 27 4 60) 28 5 60) 29 6 3) 30 7 8) 31 8 8) 1 7 ((am_cp (am_cp (am_cp (am_cp (am_cp (am_cp (am_cp M 25 2 60) 26 3 60) 27 4 60) 28 5 60) 29 6 3) 30 7 8) 31 8 8) 24 7)) 1 8 ((am_up (am_cp (am_cp (am_cp (am_cp (am_cp (am_cp (am_cp M 25 2 60) 26 3 60) 27 4 60) 28 5 60) 29 6 3) 30 7 8) 31 8 8) 1 7 ((am_cp (am_cp (am_cp (am_cp (am_cp (am_cp (am_cp M 25 2 60) 26 3 60) 27 4 60) 28 5 60) 29 6 3) 30 7 8) 31 8 8) 24 7)) 24 8)) 24 9)) 1 10 ((am_up (am_up (am_up (am_cp (am_cp (am_cp (am_cp (am_cp (am_cp (am_cp M 25 2 60) 26 3 60) 27 4 60) 28 5 60) 29 6 3) 30 7 8) 31 8 8) 1 7 ((am_cp (am_cp (am_cp (am_cp (am_cp (am_cp (am_cp M 25 2 60) 26 3 60) 27 4 60) 28 5 60) 29 6 3) 30 7 8) 31 8 8) 24 7)) 1 8 ((am_up (am_cp (am_cp (am_cp (am_cp (am_cp (am_cp (am_cp M 25 2 60) 26 3 60) 27 4 60) 28 5 60) 29 6 3) 30 7 8) 31 8 8) 1 7 ((am_cp (am_cp (am_cp (am_cp (am_cp (am_cp (am_cp M 25 2 60) 26 3 60) 27 4 60) 28 5 60) 29 6 3) 30 7 8) 31 8 8) 24 7)) 24 8)) 1 9 ((am_up (am_up (am_cp (am_cp (am_cp (am_cp (am_cp (am_cp (am_cp M 25 2 60) 26 3 60) 27 4 60) 28 5 60) 29 6 3) 30 7 8) 31 8 8) 1 7 ((am_cp (am_cp (am_cp (am_cp (am_cp (am_cp (am_cp M 25 2 60) 26 3 60) 27 4 60) 28 5 60) 29 6 3) 30 7 8) 31 8 8) 24 7)) 1 8 ((am_up (am_cp (am_cp (am_cp (am_cp (am_cp (am_cp (am_cp M 25 2 60) 26 3 60) 27 4 60) 28 5 60) 29 6 3) 30 7 8) 31 8 8) 1 7 ((am_cp (am_cp (am_cp (am_cp (am_cp (am_cp (am_cp M 25 2 60) 26 3 60) 27 4 60) 28 5 60) 29 6 3) 30 7 8) 31 8 8) 24 7)) 24 8)) 24 9)) 24 10))) rfl ⟨⟨by decide, by decide⟩, ⟨rfl, rfl, by decide, by decide, by decide, by decide⟩, ⟨by decide, by decide⟩, ⟨rfl, rfl, by decide, by decide, by decide, by decide⟩, ⟨by decide, by decide⟩, ⟨rfl, rfl, by decide, by decide, by decide, by decide⟩, ⟨by decide, by decide⟩, ⟨rfl, rfl, by decide, by decide, by decide, by decide⟩, ⟨rfl, rfl, by decide, by decide, by decide, by decide⟩, ⟨by decide, by decide⟩, ⟨rfl, rfl, by decide, by decide, by decide, by decide⟩, ⟨by decide, by decide⟩, ⟨rfl, rfl, by decide, by decide, by decide, by decide⟩, trivial⟩ ?_
  exact am_Wretv rfl rfl h
def wp_X2_copyFrom_1_32 (M : am_M) (Q : am_M → Prop) : Prop := Q (am_up (am_up (am_up (am_up (am_cp (am_cp (am_cp (am_cp (am_cp (am_cp (am_cp M 33 2 60) 34 3 60) 35 4 60) 36 5 60) 37 6 3) 38 7 8) 39 8 8) 1 7 ((am_cp (am_cp (am_cp (am_cp (am_cp (am_cp (am_cp M 33 2 60) 34 3 60) 35 4 60) 36 5 60) 37 6 3) 38 7 8) 39 8 8) 32 7)) 1 8 ((am_up (am_cp (am_cp (am_cp (am_cp (am_cp (am_cp (am_cp M 33 2 60) 34 3 60) 35 4 60) 36 5 60) 37 6 3) 38 7 8) 39 8 8) 1 7 ((am_cp (am_cp (am_cp (am_cp (am_cp (am_cp (am_cp M 33 2 60) 34 3 60) 35 4 60) 36 5 60) 37 6 3) 38 7 8) 39 8 8) 32 7)) 32 8)) 1 9 ((am_up (am_up (am_cp (am_cp (am_cp (am_cp (am_cp (am_cp (am_cp M 33 2 60) 34 3 60) 35 4 60) 36 5 60) 37 6 3) 38 7 8) 39 8 8) 1 7 ((am_cp (am_cp (am_cp (am_cp (am_cp (am_cp (am_cp M 33 2 60) 34 3 60) 35 4 60) 36 5 60) 37 6 3) 38 7 8) 39 8 8) 32 7)) 1 8 ((am_up (am_cp (am_cp (am_cp (am_cp (am_cp (am_cp (am_cp M 33 2 60) 34 3 60) 35 4 60) 36 5 60) 37 6 3) 38 7 8) 39 8 8) 1 7 ((am_cp (am_cp (am_cp (am_cp (am_cp (am_cp (am_cp M 33 2 60) 34 3 60) 35 4 60) 36 5 60) 37 6 3) 38 7 8) 39 8 8) 32 7)) 32 8)) 32 9)) 1 10 ((am_up (am_up (am_up (am_cp (am_cp (am_cp (am_cp (am_cp (am_cp (am_cp M 33 2 60) 34 3 60) 35 4 60) 36 5 60) 37 6 3) 38 7 8) 39 8 8) 1 7 ((am_cp (am_cp (am_cp (am_cp (am_cp (am_cp (am_cp M 33 2 60) 34 3 60) 35 4 60) 36 5 60) 37 6 3) 38 7 8) 39 8 8) 32 7)) 1 8 ((am_up (am_cp (am_cp (am_cp (am_cp (am_cp (am_cp (am_cp M 33 2 60) 34 3 60) 35 4 60) 36 5 60) 37 6 3) 38 7 8) 39 8 8) 1 7 ((am_cp (am_cp (am_cp (am_cp (am_cp (am_cp (am_cp M 33 2 60) 34 3 60) 35 4 60) 36 5 60) 37 6 3) 38 7 8) 39 8 8) 32 7)) 32 8)) 1 9 ((am_up (am_up (am_cp (am_cp (am_cp (am_cp (am_cp (am_cp (am_cp M 33 2 60) 34 3 60) 35 4 60) 36 5 60) 37 6 3) 38 7 8) 39 8 8) 1 7 ((am_cp (am_cp (am_cp (am_cp (am_cp (am_cp (am_cp M 33 2 60) 34 3 60) 35 4 60) 36 5 60) 37 6 3) 38 7 8) 39 8 8) 32 7)) 1 8 ((am_up (am_cp (am_cp (am_cp (am_cp (am_cp (am_cp (am_cp M 33 2 60) 34 3 60) 35 4 60) 36 5 60) 37 6 3) 38 7 8) 39 8 8) 1 7 ((am_cp (am_cp (am_cp (am_cp (am_cp (am_cp (am_cp M 33 2 60) 34 3 60) 35 4 60) 36 5 60) 37 6 3) 38 7 8) 39 8 8) 32 7)) 32 8)) 32 9)) 32 10))
set_option maxRecDepth 20000 in
theorem tm_X2_copyFrom_1_32 {M : am_M} {Q : am_M → Prop} (h : wp_X2_copyFrom_1_32 M Q) : am_CC 1 4 [.inr (.inl (some 1)), .inr (.inl (some 32))] M (am_QV Q) (fun _ _ => False) := by
  refine ⟨Nat.le_of_ble_eq_true rfl, ?_⟩
  show am_W (am_CC 0) dt_X2_copyFrom 0 0 none (am_QV Q) (am_qx 4 (fun _ _ => False)) (0, 0, [(0, .inr (.inl (some 1))), (1, .inr (.inl (some 32)))], [], M)
  refine am_Wrun 72 (ps := [-128 ≤ (60 : Int) ∧ (60 : Int) ≤ 127, (0 : Int) = 0 ∧ (0 : Int) = 0 ∧ (0 : Int) ≤ 60 ∧ (60 : Int) ≤ 60 ∧ (60 : Int) ≤ 60 ∧ am_cs [] ≤ 8, -128 ≤ (60 : Int) ∧ (60 : Int) ≤ 127, (0 : Int) = 0 ∧ (0 : Int) = 0 ∧ (0 : Int) ≤ 60 ∧ (60 : Int) ≤ 60 ∧ (60 : Int) ≤ 60 ∧ am_cs [] ≤ 8, -128 ≤ (60 : Int) ∧ (60 : Int) ≤ 127, (0 : Int) = 0 ∧ (0 : Int) = 0 ∧ (0 : Int) ≤ 60 ∧ (60 : Int) ≤ 60 ∧ (60 : Int) ≤ 60 ∧ am_cs [] ≤ 8, -128 ≤ (60 : Int) ∧ (60 : Int) ≤ 127, (0 : Int) = 0 ∧ (0 : Int) = 0 ∧ (0 : Int) ≤ 60 ∧ (60 : Int) ≤ 60 ∧ (60 : Int) ≤ 60 ∧ am_cs [] ≤ 8, (0 : Int) = 0 ∧ (0 : Int) = 0 ∧ (0 : Int) ≤ 3 ∧ (3 : Int) ≤ 3 ∧ (3 : Int) ≤ 3 ∧ am_cs [] ≤ 8, -128 ≤ (8 : Int) ∧ (8 : Int) ≤ 127, (0 : Int) = 0 ∧ (0 : Int) = 0 ∧ (0 : Int) ≤ 8 ∧ (8 : Int) ≤ 8 ∧ (8 : Int) ≤ 8 ∧ am_cs [] ≤ 8, -128 ≤ (8 : Int) ∧ (8 : Int) ≤ 127, (0 : Int) = 0 ∧ (0 : Int) = 0 ∧ (0 : Int) ≤ 8 ∧ (8 : Int) ≤ 8 ∧ (8 : Int) ≤ 8 ∧ am_cs [] ≤ 8]) (pc' := 136) (lv' := [(0, .inr (.inl (some 1))), (1, .inr (.inl (some 32)))]) (st' := []) (M' := (am_up (am_up (am_up (am_up (am_cp (am_cp (am_cp (am_cp (am_cp (am_cp (am_cp M 33 2 60) 34 3 60) 35 4 60) 36 5 60) 37 6 3) 38 7 8) 39 8 8) 1 7 ((am_cp (am_cp (am_cp (am_cp (am_cp (am_cp (am_cp M 33 2 60) 34 3 60) 35 4 60) 36 5 60) 37 6 3) 38 7 8) 39 8 8) 32 7)) 1 8 ((am_up (am_cp (am_cp (am_cp (am_cp (am_cp (am_cp (am_cp M 33 2 60) 34 3 60) 35 4 60) 36 5 60) 37 6 3) 38 7 8) 39 8 8) 1 7 ((am_cp (am_cp (am_cp (am_cp (am_cp (am_cp (am_cp M 33 2 60) 34 3 60) 35 4 60) 36 5 60) 37 6 3) 38 7 8) 39 8 8) 32 7)) 32 8)) 1 9 ((am_up (am_up (am_cp (am_cp (am_cp (am_cp (am_cp (am_cp (am_cp M 33 2 60) 34 3 60) 35 4 60) 36 5 60) 37 6 3) 38 7 8) 39 8 8) 1 7 ((am_cp (am_cp (am_cp (am_cp (am_cp (am_cp (am_cp M 33 2 60) 34 3 60) 35 4 60) 36 5 60) 37 6 3) 38 7 8) 39 8 8) 32 7)) 1 8 ((am_up (am_cp (am_cp (am_cp (am_cp (am_cp (am_cp (am_cp M 33 2 60) 34 3 60) 35 4 60) 36 5 60) 37 6 3) 38 7 8) 39 8 8) 1 7 ((am_cp (am_cp (am_cp (am_cp (am_cp (am_cp (am_cp M 33 2 60) 34 3 60) 35 4 60) 36 5 60) 37 6 3) 38 7 8) 39 8 8) 32 7)) 32 8)) 32 9)) 1 10 ((am_up (am_up (am_up (am_cp (am_cp (am_cp (am_cp (am_cp (am_cp (am_cp M 33 2 60) 34 3 60) 35 4 60) 36 5 60) 37 6 3) 38 7 8) 39 8 8) 1 7 ((am_cp (am_cp (am_cp (am_cp (am_cp (am_cp (am_cp M 33 2 60) 34 3 60) 35 4 60) 36 5 60) 37 6 3) 38 7 8) 39 8 8) 32 7)) 1 8 ((am_up (am_cp (am_cp (am_cp (am_cp (am_cp (am_cp (am_cp M 33 2 60) 34 3 60) 35 4 60) 36 5 60) 37 6 3) 38 7 8) 39 8 8) 1 7 ((am_cp (am_cp (am_cp (am_cp (am_cp (am_cp (am_cp M 33 2 60) 34 3 60) 35 4 60) 36 5 60) 37 6 3) 38 7 8) 39 8 8) 32 7)) 32 8)) 1 9 ((am_up (am_up (am_cp (am_cp (am_cp (am_cp (am_cp (am_cp (am_cp M 33 2 60) 34 3 60) 35 4 60) 36 5 60) 37 6 3) 38 7 8) 39 8 8) 1 7 ((am_cp (am_cp (am_cp (am_cp (am_cp (am_cp (am_cp M 33 2 60) 34 3 60) 35 4 60) 36 5 60) 37 6 3) 38 7 8) 39 8 8) 32 7)) 1 8 ((am_up (am_cp (am_cp (am_cp (am_cp (am_cp (am_cp (am_cp M 33 2 60) 34 3 60) 35 4 60) 36 5 60) 37 6 3) 38 7 8) 39 8 8) 1 7 ((am_cp (am_cp (am_cp (am_cp (am_cp (am_cp (am_cp M 33 2 60) 34 3 60) 35 4 60) 36 5 60) 37 6 3) 38 7 8) 39 8 8) 32 7)) 32 8)) 32 9)) 32 10))) rfl ⟨⟨by decide, by decide⟩, ⟨rfl, rfl, by decide, by decide, by decide, by decide⟩, ⟨by decide, by decide⟩, ⟨rfl, rfl, by decide, by decide, by decide, by decide⟩, ⟨by decide, by decide⟩, ⟨rfl, rfl, by decide, by decide, by decide, by decide⟩, ⟨by decide, by decide⟩, ⟨rfl, rfl, by decide, by decide, by decide, by decide⟩, ⟨rfl, rfl, by decide, by decide, by decide, by decide⟩, ⟨by decide, by decide⟩, ⟨rfl, rfl, by decide, by decide, by decide, by decide⟩, ⟨by decide, by decide⟩, ⟨rfl, rfl, by decide, by decide, by decide, by decide⟩, trivial⟩ ?_
  exact am_Wretv rfl rfl h
def wp_X2_copyFrom_1_40 (M : am_M) (Q : am_M → Prop) : Prop := Q (am_up (am_up (am_up (am_up (am_cp (am_cp (am_cp (am_cp (am_cp (am_cp (am_cp M 41 2 60) 42 3 60) 43 4 60) 44 5 60) 45 6 3) 46 7 8) 47 8 8) 1 7 ((am_cp (am_cp (am_cp (am_cp (am_cp (am_cp (am_cp M 41 2 60) 42 3 60) 43 4 60) 44 5 60) 45 6 3) 46 7 8) 47 8 8) 40 7)) 1 8 ((am_up (am_cp (am_cp (am_cp (am_cp (am_cp (am_cp (am_cp M 41 2 60) 42 3 60) 43 4 60) 44 5 60) 45 6 3) 46 7 8) 47 8 8) 1 7 ((am_cp (am_cp (am_cp (am_cp (am_cp (am_cp (am_cp M 41 2 60) 42 3 60) 43 4 60) 44 5 60) 45 6 3) 46 7 8) 47 8 8) 40 7)) 40 8)) 1 9 ((am_up (am_up (am_cp (am_cp (am_cp (am_cp (am_cp (am_cp (am_cp M 41 2 60) 42 3 60) 43 4 60) 44 5 60) 45 6 3) 46 7 8) 47 8 8) 1 7 ((am_cp (am_cp (am_cp (am_cp (am_cp (am_cp (am_cp M 41 2 60) 42 3 60) 43 4 60) 44 5 60) 45 6 3) 46 7 8) 47 8 8) 40 7)) 1 8 ((am_up (am_cp (am_cp (am_cp (am_cp (am_cp (am_cp (am_cp M 41 2 60) 42 3 60) 43 4 60) 44 5 60) 45 6 3) 46 7 8) 47 8 8) 1 7 ((am_cp (am_cp (am_cp (am_cp (am_cp (am_cp (am_cp M 41 2 60) 42 3 60) 43 4 60) 44 5 60) 45 6 3) 46 7 8) 47 8 8) 40 7)) 40 8)) 40 9)) 1 10 ((am_up (am_up (am_up (am_cp (am_cp (am_cp (am_cp (am_cp (am_cp (am_cp M 41 2 60) 42 3 60) 43 4 60) 44 5 60) 45 6 3) 46 7 8) 47 8 8) 1 7 ((am_cp (am_cp (am_cp (am_cp (am_cp (am_cp (am_cp M 41 2 60) 42 3 60) 43 4 60) 44 5 60) 45 6 3) 46 7 8) 47 8 8) 40 7)) 1 8 ((am_up (am_cp (am_cp (am_cp (am_cp (am_cp (am_cp (am_cp M 41 2 60) 42 3 60) 43 4 60) 44 5 60) 45 6 3) 46 7 8) 47 8 8) 1 7 ((am_cp (am_cp (am_cp (am_cp (am_cp (am_cp (am_cp M 41 2 60) 42 3 60) 43 4 60) 44 5 60) 45 6 3) 46 7 8) 47 8 8) 40 7)) 40 8)) 1 9 ((am_up (am_up (am_cp (am_cp (am_cp (am_cp (am_cp (am_cp (am_cp M 41 2 60) 42 3 60) 43 4 60) 44 5 60) 45 6 3) 46 7 8) 47 8 8) 1 7 ((am_cp (am_cp (am_cp (am_cp (am_cp (am_cp (am_cp M 41 2 60) 42 3 60) 43 4 60) 44 5 60) 45 6 3) 46 7 8) 47 8 8) 40 7)) 1 8 ((am_up (am_cp (am_cp (am_cp (am_cp (am_cp (am_cp (am_cp M 41 2 60) 42 3 60) 43 4 60) 44 5 60) 45 6 3) 46 7 8) 47 8 8) 1 7 ((am_cp (am_cp (am_cp (am_cp (am_cp (am_cp (am_cp M 41 2 60) 42 3 60) 43 4 60) 44 5 60) 45 6 3) 46 7 8) 47 8 8) 40 7)) 40 8)) 40 9)) 40 10))
set_option maxRecDepth 20000 in
theorem tm_X2_copyFrom_1_40 {M : am_M} {Q : am_M → Prop} (h : wp_X2_copyFrom_1_40 M Q) : am_CC 1 4 [.inr (.inl (some 1)), .inr (.inl (some 40))] M (am_QV Q) (fun _ _ => False) := by
  refine ⟨Nat.le_of_ble_eq_true rfl, ?_⟩
  show am_W (am_CC 0) dt_X2_copyFrom 0 0 none (am_QV Q) (am_qx 4 (fun _ _ => False)) (0, 0, [(0, .inr (.inl (some 1))), (1, .inr (.inl (some 40)))], [], M)
  refine am_Wrun 72 (ps := [-128 ≤ (60 : Int) ∧ (60 : Int) ≤ 127, (0 : Int) = 0 ∧ (0 : Int) = 0 ∧ (0 : Int) ≤ 60 ∧ (60 : Int) ≤ 60 ∧ (60 : Int) ≤ 60 ∧ am_cs [] ≤ 8, -128 ≤ (60 : Int) ∧ (60 : Int) ≤ 127, (0 : Int) = 0 ∧ (0 : Int) = 0 ∧ (0 : Int) ≤ 60 ∧ (60 : Int) ≤ 60 ∧ (60 : Int) ≤ 60 ∧ am_cs [] ≤ 8, -128 ≤ (60 : Int) ∧ (60 : Int) ≤ 127, (0 : Int) = 0 ∧ (0 : Int) = 0 ∧ (0 : Int) ≤ 60 ∧ (60 : Int) ≤ 60 ∧ (60 : Int) ≤ 60 ∧ am_cs [] ≤ 8, -128 ≤ (60 : Int) ∧ (60 : Int) ≤ 127, (0 : Int) = 0 ∧ (0 : Int) = 0 ∧ (0 : Int) ≤ 60 ∧ (60 : Int) ≤ 60 ∧ (60 : Int) ≤ 60 ∧ am_cs [] ≤ 8, (0 : Int) = 0 ∧ (0 : Int) = 0 ∧ (0 : Int) ≤ 3 ∧ (3 : Int) ≤ 3 ∧ (3 : Int) ≤ 3 ∧ am_cs [] ≤ 8, -128 ≤ (8 : Int) ∧ (8 : Int) ≤ 127, (0 : Int) = 0 ∧ (0 : Int) = 0 ∧ (0 : Int) ≤ 8 ∧ (8 : Int) ≤ 8 ∧ (8 : Int) ≤ 8 ∧ am_cs [] ≤ 8, -128 ≤ (8 : Int) ∧ (8 : Int) ≤ 127, (0 : Int) = 0 ∧ (0 : Int) = 0 ∧ (0 : Int) ≤ 8 ∧ (8 : Int) ≤ 8 ∧ (8 : Int) ≤ 8 ∧ am_cs [] ≤ 8]) (pc' := 136) (lv' := [(0, .inr (.inl (some 1))), (1, .inr (.inl (some 40)))]) (st' := []) (M' := (am_up (am_up (am_up (am_up (am_cp (am_cp (am_cp (am_cp (am_cp (am_cp (am_cp M 41 2 60) 42 3 60) 43 4 60) 44 5 60) 45 6 3) 46 7 8) 47 8 8) 1 7 ((am_cp (am_cp (am_cp (am_cp (am_cp (am_cp (am_cp M 41 2 60) 42 3 60) 43 4 60) 44 5 60) 45 6 3) 46 7 8) 47 8 8) 40 7)) 1 8 ((am_up (am_cp (am_cp (am_cp (am_cp (am_cp (am_cp (am_cp M 41 2 60) 42 3 60) 43 4 60) 44 5 60) 45 6 3) 46 7 8) 47 8 8) 1 7 ((am_cp (am_cp (am_cp (am_cp (am_cp (am_cp (am_cp M 41 2 60) 42 3 60) 43 4 60) 44 5 60) 45 6 3) 46 7 8) 47 8 8) 40 7)) 40 8)) 1 9 ((am_up (am_up (am_cp (am_cp (am_cp (am_cp (am_cp (am_cp (am_cp M 41 2 60) 42 3 60) 43 4 60) 44 5 60) 45 6 3) 46 7 8) 47 8 8) 1 7 ((am_cp (am_cp (am_cp (am_cp (am_cp (am_cp (am_cp M 41 2 60) 42 3 60) 43 4 60) 44 5 60) 45 6 3) 46 7 8) 47 8 8) 40 7)) 1 8 ((am_up (am_cp (am_cp (am_cp (am_cp (am_cp (am_cp (am_cp M 41 2 60) 42 3 60) 43 4 60) 44 5 60) 45 6 3) 46 7 8) 47 8 8) 1 7 ((am_cp (am_cp (am_cp (am_cp (am_cp (am_cp (am_cp M 41 2 60) 42 3 60) 43 4 60) 44 5 60) 45 6 3) 46 7 8) 47 8 8) 40 7)) 40 8)) 40 9)) 1 10 ((am_up (am_up (am_up (am_cp (am_cp (am_cp (am_cp (am_cp (am_cp (am_cp M 41 2 60) 42 3 60) 43 4 60) 44 5 60) 45 6 3) 46 7 8) 47 8 8) 1 7 ((am_cp (am_cp (am_cp (am_cp (am_cp (am_cp (am_cp M 41 2 60) 42 3 60) 43 4 60) 44 5 60) 45 6 3) 46 7 8) 47 8 8) 40 7)) 1 8 ((am_up (am_cp (am_cp (am_cp (am_cp (am_cp (am_cp (am_cp M 41 2 60) 42 3 60) 43 4 60) 44 5 60) 45 6 3) 46 7 8) 47 8 8) 1 7 ((am_cp (am_cp (am_cp (am_cp (am_cp (am_cp (am_cp M 41 2 60) 42 3 60) 43 4 60) 44 5 60) 45 6 3) 46 7 8) 47 8 8) 40 7)) 40 8)) 1 9 ((am_up (am_up (am_cp (am_cp (am_cp (am_cp (am_cp (am_cp (am_cp M 41 2 60) 42 3 60) 43 4 60) 44 5 60) 45 6 3) 46 7 8) 47 8 8) 1 7 ((am_cp (am_cp (am_cp (am_cp (am_cp (am_cp (am_cp M 41 2 60) 42 3 60) 43 4 60) 44 5 60) 45 6 3) 46 7 8) 47 8 8) 40 7)) 1 8 ((am_up (am_cp (am_cp (am_cp (am_cp (am_cp (am_cp (am_cp M 41 2 60) 42 3 60) 43 4 60) 44 5 60) 45 6 3) 46 7 8) 47 8 8) 1 7 ((am_cp (am_cp (am_cp (am_cp (am_cp (am_cp (am_cp M 41 2 60) 42 3 60) 43 4 60) 44 5 60) 45 6 3) 46 7 8) 47 8 8) 40 7)) 40 8)) 40 9)) 40 10))) rfl ⟨⟨by decide, by decide⟩, ⟨rfl, rfl, by decide, by decide, by decide, by decide⟩, ⟨by decide, by decide⟩, ⟨rfl, rfl, by decide, by decide, by decide, by decide⟩, ⟨by decide, by decide⟩, ⟨rfl, rfl, by decide, by decide, by decide, by decide⟩, ⟨by decide, by decide⟩, ⟨rfl, rfl, by decide, by decide, by decide, by decide⟩, ⟨rfl, rfl, by decide, by decide, by decide, by decide⟩, ⟨by decide, by decide⟩, ⟨rfl, rfl, by decide, by decide, by decide, by decide⟩, ⟨by decide, by decide⟩, ⟨rfl, rfl, by decide, by decide, by decide, by decide⟩, trivial⟩ ?_
  exact am_Wretv rfl rfl h
