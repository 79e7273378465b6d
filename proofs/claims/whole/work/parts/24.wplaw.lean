abbrev dt_L_law : am_D := (tk_L_law, 9, 9, some .boolean, tb_hn 222)
def wj_L_law_1349 (Q : Int → am_M → Prop) (X : am_X) (scr : Int × (Int → Int)) (cap : Nat) (k23 : Nat → Int → am_M → Prop) (b : Nat) (v4 : Int) (s0 : Int) (s2 : Int) (M : am_M) : Prop := (b ≤ cap) ∧ wp_X6_area s0 M (fun x127 M128 => ((am_rl s2 ∧ am_rl x127) ∨ s2 = x127) ∧ ((am_rg (am_lci s2 x127)) ∧ ((am_lci s2 x127) = 0 → k23 b (v4 + 3) M128) ∧ (¬ (am_lci s2 x127) = 0 → Q 0 M128)))
def wj_L_law_1331 (Q : Int → am_M → Prop) (X : am_X) (scr : Int × (Int → Int)) (cap : Nat) (k23 : Nat → Int → am_M → Prop) (b : Nat) (v4 : Int) (s0 : Int) (M : am_M) : Prop := (b ≤ cap) ∧ wp_X5_area s0 M (fun x125 M126 => (0 ≤ (v4 + 1) ∧ (v4 + 1) < scr.1) ∧ ((am_rg (scr.2 (v4 + 1))) ∧ ((scr.2 (v4 + 1)) = 0 → wj_L_law_1349 Q X scr cap k23 b v4 0 x125 M126) ∧ (¬ (scr.2 (v4 + 1)) = 0 → wj_L_law_1349 Q X scr cap k23 b v4 1 x125 M126)))
def wl_L_law_23 (Q : Int → am_M → Prop) (X : am_X) (scr : Int × (Int → Int)) (cap : Nat) : Nat → Nat → Int → am_M → Prop
  | 0, _, _, _ => False
  | n + 1, b, v4, M => (am_rg v4) ∧ (am_rg (scr.1 - 3)) ∧ ((scr.1 - 3) < v4 → Q 1 M) ∧ (¬ (scr.1 - 3) < v4 → (0 ≤ v4 ∧ v4 < scr.1) ∧ ((am_rg ((Int32.ofInt (scr.2 v4) &&& Int32.ofInt 31).toInt)) ∧ ((((Int32.ofInt (scr.2 v4) &&& Int32.ofInt 31).toInt) < 0 ∨ 29 < ((Int32.ofInt (scr.2 v4) &&& Int32.ofInt 31).toInt)) → wl_L_law_23 Q X scr cap n b (v4 + 3) M) ∧ (((Int32.ofInt (scr.2 v4) &&& Int32.ofInt 31).toInt) = 0 → (0 ≤ (v4 + 1) ∧ (v4 + 1) < scr.1) ∧ (0 ≤ (v4 + 2) ∧ (v4 + 2) < scr.1) ∧ ((b + 1 ≤ cap) ∧ wp_L_add (scr.2 (v4 + 1)) (scr.2 (v4 + 2)) M (fun x1 M2 => (0 ≤ (v4 + 1) ∧ (v4 + 1) < scr.1) ∧ (0 ≤ (v4 + 2) ∧ (v4 + 2) < scr.1) ∧ ((b + 1 ≤ cap) ∧ wp_X6_add (scr.2 (v4 + 1)) (scr.2 (v4 + 2)) M2 (fun x3 M4 => (b + 1 ≤ cap) ∧ wp_X6_thrown M4 (fun x5 M6 => (am_rg x5) ∧ (am_rg x1) ∧ (x5 = x1 → (am_rg x1) ∧ (¬ x1 = 0 → wl_L_law_23 Q X scr cap n (b + 1) (v4 + 3) M6) ∧ (¬ (¬ x1 = 0) → (am_rg x3) ∧ ((am_rl (M6 80 0) ∧ am_rl x3) ∨ (M6 80 0) = x3) ∧ ((am_rg (am_lci (M6 80 0) x3)) ∧ ((am_lci (M6 80 0) x3) = 0 → wl_L_law_23 Q X scr cap n (b + 1) (v4 + 3) M6) ∧ (¬ (am_lci (M6 80 0) x3) = 0 → Q 0 M6)))) ∧ (¬ x5 = x1 → Q 0 M6))))))) ∧ (((Int32.ofInt (scr.2 v4) &&& Int32.ofInt 31).toInt) = 1 → (0 ≤ (v4 + 1) ∧ (v4 + 1) < scr.1) ∧ (0 ≤ (v4 + 2) ∧ (v4 + 2) < scr.1) ∧ ((b + 1 ≤ cap) ∧ wp_L_correct (scr.2 (v4 + 1)) (scr.2 (v4 + 2)) M (fun x7 M8 => (0 ≤ (v4 + 1) ∧ (v4 + 1) < scr.1) ∧ (0 ≤ (v4 + 2) ∧ (v4 + 2) < scr.1) ∧ ((b + 1 ≤ cap) ∧ wp_X6_correct (scr.2 (v4 + 1)) (scr.2 (v4 + 2)) M8 (fun x9 M10 => (b + 1 ≤ cap) ∧ wp_X6_thrown M10 (fun x11 M12 => (am_rg x11) ∧ (am_rg x7) ∧ (x11 = x7 → (am_rg x7) ∧ (¬ x7 = 0 → wl_L_law_23 Q X scr cap n (b + 1) (v4 + 3) M12) ∧ (¬ (¬ x7 = 0) → (am_rg x9) ∧ ((am_rl (M12 80 0) ∧ am_rl x9) ∨ (M12 80 0) = x9) ∧ ((am_rg (am_lci (M12 80 0) x9)) ∧ ((am_lci (M12 80 0) x9) = 0 → wl_L_law_23 Q X scr cap n (b + 1) (v4 + 3) M12) ∧ (¬ (am_lci (M12 80 0) x9) = 0 → Q 0 M12)))) ∧ (¬ x11 = x7 → Q 0 M12))))))) ∧ (((Int32.ofInt (scr.2 v4) &&& Int32.ofInt 31).toInt) = 2 → (0 ≤ (v4 + 1) ∧ (v4 + 1) < scr.1) ∧ ((b + 1 ≤ cap) ∧ wp_L_drop (scr.2 (v4 + 1)) M (fun x13 M14 => (0 ≤ (v4 + 1) ∧ (v4 + 1) < scr.1) ∧ ((b + 1 ≤ cap) ∧ wp_X6_drop (scr.2 (v4 + 1)) M14 (fun x15 M16 => (b + 1 ≤ cap) ∧ wp_X6_thrown M16 (fun x17 M18 => (am_rg x17) ∧ (am_rg x13) ∧ (x17 = x13 → (am_rg x13) ∧ (¬ x13 = 0 → wl_L_law_23 Q X scr cap n (b + 1) (v4 + 3) M18) ∧ (¬ (¬ x13 = 0) → (am_rg x15) ∧ ((am_rl (M18 80 0) ∧ am_rl x15) ∨ (M18 80 0) = x15) ∧ ((am_rg (am_lci (M18 80 0) x15)) ∧ ((am_lci (M18 80 0) x15) = 0 → wl_L_law_23 Q X scr cap n (b + 1) (v4 + 3) M18) ∧ (¬ (am_lci (M18 80 0) x15) = 0 → Q 0 M18)))) ∧ (¬ x17 = x13 → Q 0 M18))))))) ∧ (((Int32.ofInt (scr.2 v4) &&& Int32.ofInt 31).toInt) = 3 → (0 ≤ (v4 + 1) ∧ (v4 + 1) < scr.1) ∧ ((b + 1 ≤ cap) ∧ wp_L_keep (scr.2 (v4 + 1)) M (fun x19 M20 => (0 ≤ (v4 + 1) ∧ (v4 + 1) < scr.1) ∧ ((b + 1 ≤ cap) ∧ wp_X6_keep (scr.2 (v4 + 1)) M20 (fun x21 M22 => (b + 1 ≤ cap) ∧ wp_X6_thrown M22 (fun x23 M24 => (am_rg x23) ∧ (am_rg x19) ∧ (x23 = x19 → (am_rg x19) ∧ (¬ x19 = 0 → wl_L_law_23 Q X scr cap n (b + 1) (v4 + 3) M24) ∧ (¬ (¬ x19 = 0) → (am_rg x21) ∧ ((am_rl (M24 80 0) ∧ am_rl x21) ∨ (M24 80 0) = x21) ∧ ((am_rg (am_lci (M24 80 0) x21)) ∧ ((am_lci (M24 80 0) x21) = 0 → wl_L_law_23 Q X scr cap n (b + 1) (v4 + 3) M24) ∧ (¬ (am_lci (M24 80 0) x21) = 0 → Q 0 M24)))) ∧ (¬ x23 = x19 → Q 0 M24))))))) ∧ (((Int32.ofInt (scr.2 v4) &&& Int32.ofInt 31).toInt) = 4 → (b ≤ cap) ∧ wp_X5_mend M (fun x25 M26 => (b ≤ cap) ∧ wp_X6_mend M26 (fun x27 M28 => (am_rg x25) ∧ (am_rg x27) ∧ (x25 = x27 → wl_L_law_23 Q X scr cap n b (v4 + 3) M28) ∧ (¬ x25 = x27 → Q 0 M28)))) ∧ (((Int32.ofInt (scr.2 v4) &&& Int32.ofInt 31).toInt) = 5 → (0 ≤ (v4 + 1) ∧ (v4 + 1) < scr.1) ∧ ((b + 1 ≤ cap) ∧ wp_L_thin (scr.2 (v4 + 1)) M (fun x29 M30 => (0 ≤ (v4 + 1) ∧ (v4 + 1) < scr.1) ∧ ((b + 1 ≤ cap) ∧ wp_X6_thin (scr.2 (v4 + 1)) M30 (fun x31 M32 => (b + 1 ≤ cap) ∧ wp_X6_thrown M32 (fun x33 M34 => (am_rg x33) ∧ (am_rg x29) ∧ (x33 = x29 → (am_rg x29) ∧ (¬ x29 = 0 → wl_L_law_23 Q X scr cap n (b + 1) (v4 + 3) M34) ∧ (¬ (¬ x29 = 0) → (am_rg x31) ∧ ((am_rl (M34 80 0) ∧ am_rl x31) ∨ (M34 80 0) = x31) ∧ ((am_rg (am_lci (M34 80 0) x31)) ∧ ((am_lci (M34 80 0) x31) = 0 → wl_L_law_23 Q X scr cap n (b + 1) (v4 + 3) M34) ∧ (¬ (am_lci (M34 80 0) x31) = 0 → Q 0 M34)))) ∧ (¬ x33 = x29 → Q 0 M34))))))) ∧ (((Int32.ofInt (scr.2 v4) &&& Int32.ofInt 31).toInt) = 6 → (0 ≤ (v4 + 1) ∧ (v4 + 1) < scr.1) ∧ ((b + 1 ≤ cap) ∧ wp_L_tear (scr.2 (v4 + 1)) M (fun x35 M36 => (0 ≤ (v4 + 1) ∧ (v4 + 1) < scr.1) ∧ ((b + 1 ≤ cap) ∧ wp_X6_tear (scr.2 (v4 + 1)) M36 (fun x37 M38 => (b + 1 ≤ cap) ∧ wp_X6_thrown M38 (fun x39 M40 => (am_rg x39) ∧ (am_rg x35) ∧ (x39 = x35 → (am_rg x35) ∧ (¬ x35 = 0 → wl_L_law_23 Q X scr cap n (b + 1) (v4 + 3) M40) ∧ (¬ (¬ x35 = 0) → (am_rg x37) ∧ ((am_rl (M40 80 0) ∧ am_rl x37) ∨ (M40 80 0) = x37) ∧ ((am_rg (am_lci (M40 80 0) x37)) ∧ ((am_lci (M40 80 0) x37) = 0 → wl_L_law_23 Q X scr cap n (b + 1) (v4 + 3) M40) ∧ (¬ (am_lci (M40 80 0) x37) = 0 → Q 0 M40)))) ∧ (¬ x39 = x35 → Q 0 M40))))))) ∧ (((Int32.ofInt (scr.2 v4) &&& Int32.ofInt 31).toInt) = 7 → (0 ≤ (v4 + 1) ∧ (v4 + 1) < scr.1) ∧ (0 ≤ (v4 + 2) ∧ (v4 + 2) < scr.1) ∧ ((b + 1 ≤ cap) ∧ wp_L_set (scr.2 (v4 + 1)) (scr.2 (v4 + 2)) M (fun x41 M42 => (0 ≤ (v4 + 1) ∧ (v4 + 1) < scr.1) ∧ (0 ≤ (v4 + 2) ∧ (v4 + 2) < scr.1) ∧ ((b + 1 ≤ cap) ∧ wp_X6_set (scr.2 (v4 + 1)) (scr.2 (v4 + 2)) M42 (fun x43 M44 => (b + 1 ≤ cap) ∧ wp_X6_thrown M44 (fun x45 M46 => (am_rg x45) ∧ (am_rg x41) ∧ (x45 = x41 → (am_rg x41) ∧ (¬ x41 = 0 → wl_L_law_23 Q X scr cap n (b + 1) (v4 + 3) M46) ∧ (¬ (¬ x41 = 0) → (am_rg x43) ∧ ((am_rl (M46 80 0) ∧ am_rl x43) ∨ (M46 80 0) = x43) ∧ ((am_rg (am_lci (M46 80 0) x43)) ∧ ((am_lci (M46 80 0) x43) = 0 → wl_L_law_23 Q X scr cap n (b + 1) (v4 + 3) M46) ∧ (¬ (am_lci (M46 80 0) x43) = 0 → Q 0 M46)))) ∧ (¬ x45 = x41 → Q 0 M46))))))) ∧ (((Int32.ofInt (scr.2 v4) &&& Int32.ofInt 31).toInt) = 8 → (0 ≤ (v4 + 1) ∧ (v4 + 1) < scr.1) ∧ (0 ≤ (v4 + 2) ∧ (v4 + 2) < scr.1) ∧ ((b + 1 ≤ cap) ∧ wp_L_note (scr.2 (v4 + 1)) (scr.2 (v4 + 2)) M (fun x47 M48 => (0 ≤ (v4 + 1) ∧ (v4 + 1) < scr.1) ∧ (0 ≤ (v4 + 2) ∧ (v4 + 2) < scr.1) ∧ ((b + 1 ≤ cap) ∧ wp_X6_note (scr.2 (v4 + 1)) (scr.2 (v4 + 2)) M48 (fun x49 M50 => (b + 1 ≤ cap) ∧ wp_X6_thrown M50 (fun x51 M52 => (am_rg x51) ∧ (am_rg x47) ∧ (x51 = x47 → (am_rg x47) ∧ (¬ x47 = 0 → wl_L_law_23 Q X scr cap n (b + 1) (v4 + 3) M52) ∧ (¬ (¬ x47 = 0) → (am_rg x49) ∧ ((am_rl (M52 80 0) ∧ am_rl x49) ∨ (M52 80 0) = x49) ∧ ((am_rg (am_lci (M52 80 0) x49)) ∧ ((am_lci (M52 80 0) x49) = 0 → wl_L_law_23 Q X scr cap n (b + 1) (v4 + 3) M52) ∧ (¬ (am_lci (M52 80 0) x49) = 0 → Q 0 M52)))) ∧ (¬ x51 = x47 → Q 0 M52))))))) ∧ (((Int32.ofInt (scr.2 v4) &&& Int32.ofInt 31).toInt) = 9 → (b ≤ cap) ∧ wp_X5_strike M (fun x53 M54 => (b ≤ cap) ∧ wp_X6_strike M54 (fun x55 M56 => (am_rg x53) ∧ (am_rg x55) ∧ (x53 = x55 → wl_L_law_23 Q X scr cap n b (v4 + 3) M56) ∧ (¬ x53 = x55 → Q 0 M56)))) ∧ (((Int32.ofInt (scr.2 v4) &&& Int32.ofInt 31).toInt) = 10 → (0 ≤ (v4 + 1) ∧ (v4 + 1) < scr.1) ∧ ((b + 1 ≤ cap) ∧ wp_L_append (scr.2 (v4 + 1)) M (fun x57 M58 => (0 ≤ (v4 + 1) ∧ (v4 + 1) < scr.1) ∧ ((b + 1 ≤ cap) ∧ wp_X6_append (scr.2 (v4 + 1)) M58 (fun x59 M60 => (b + 1 ≤ cap) ∧ wp_X6_thrown M60 (fun x61 M62 => (am_rg x61) ∧ (am_rg x57) ∧ (x61 = x57 → (am_rg x57) ∧ (¬ x57 = 0 → wl_L_law_23 Q X scr cap n (b + 1) (v4 + 3) M62) ∧ (¬ (¬ x57 = 0) → (am_rg x59) ∧ ((am_rl (M62 80 0) ∧ am_rl x59) ∨ (M62 80 0) = x59) ∧ ((am_rg (am_lci (M62 80 0) x59)) ∧ ((am_lci (M62 80 0) x59) = 0 → wl_L_law_23 Q X scr cap n (b + 1) (v4 + 3) M62) ∧ (¬ (am_lci (M62 80 0) x59) = 0 → Q 0 M62)))) ∧ (¬ x61 = x57 → Q 0 M62))))))) ∧ (((Int32.ofInt (scr.2 v4) &&& Int32.ofInt 31).toInt) = 11 → (b ≤ cap) ∧ wp_X5_clearBuffer M (fun x63 M64 => (b ≤ cap) ∧ wp_X6_clearBuffer M64 (fun x65 M66 => (am_rg x63) ∧ (am_rg x65) ∧ (x63 = x65 → wl_L_law_23 Q X scr cap n b (v4 + 3) M66) ∧ (¬ x63 = x65 → Q 0 M66)))) ∧ (((Int32.ofInt (scr.2 v4) &&& Int32.ofInt 31).toInt) = 12 → (b ≤ cap) ∧ wp_X5_firstError M (fun x67 M68 => (b ≤ cap) ∧ wp_X6_firstError M68 (fun x69 M70 => (am_rg x67) ∧ (am_rg x69) ∧ (x67 = x69 → wl_L_law_23 Q X scr cap n b (v4 + 3) M70) ∧ (¬ x67 = x69 → Q 0 M70)))) ∧ (((Int32.ofInt (scr.2 v4) &&& Int32.ofInt 31).toInt) = 13 → (b + 1 ≤ cap) ∧ wp_L_addAll M (fun x71 M72 => (b + 1 ≤ cap) ∧ wp_X6_addAll M72 (fun x73 M74 => (b + 1 ≤ cap) ∧ wp_X6_thrown M74 (fun x75 M76 => (am_rg x75) ∧ (am_rg x71) ∧ (x75 = x71 → (am_rg x71) ∧ (¬ x71 = 0 → wl_L_law_23 Q X scr cap n (b + 1) (v4 + 3) M76) ∧ (¬ (¬ x71 = 0) → (am_rg x73) ∧ ((am_rl (M76 80 0) ∧ am_rl x73) ∨ (M76 80 0) = x73) ∧ ((am_rg (am_lci (M76 80 0) x73)) ∧ ((am_lci (M76 80 0) x73) = 0 → wl_L_law_23 Q X scr cap n (b + 1) (v4 + 3) M76) ∧ (¬ (am_lci (M76 80 0) x73) = 0 → Q 0 M76)))) ∧ (¬ x75 = x71 → Q 0 M76))))) ∧ (((Int32.ofInt (scr.2 v4) &&& Int32.ofInt 31).toInt) = 14 → (b + 1 ≤ cap) ∧ wp_L_undo M (fun x77 M78 => (b + 1 ≤ cap) ∧ wp_X6_undo M78 (fun x79 M80 => (b + 1 ≤ cap) ∧ wp_X6_thrown M80 (fun x81 M82 => (am_rg x81) ∧ (am_rg x77) ∧ (x81 = x77 → (am_rg x77) ∧ (¬ x77 = 0 → wl_L_law_23 Q X scr cap n (b + 1) (v4 + 3) M82) ∧ (¬ (¬ x77 = 0) → (am_rg x79) ∧ ((am_rl (M82 80 0) ∧ am_rl x79) ∨ (M82 80 0) = x79) ∧ ((am_rg (am_lci (M82 80 0) x79)) ∧ ((am_lci (M82 80 0) x79) = 0 → wl_L_law_23 Q X scr cap n (b + 1) (v4 + 3) M82) ∧ (¬ (am_lci (M82 80 0) x79) = 0 → Q 0 M82)))) ∧ (¬ x81 = x77 → Q 0 M82))))) ∧ (((Int32.ofInt (scr.2 v4) &&& Int32.ofInt 31).toInt) = 15 → (0 ≤ (v4 + 1) ∧ (v4 + 1) < scr.1) ∧ (0 ≤ (v4 + 2) ∧ (v4 + 2) < scr.1) ∧ ((b + 1 ≤ cap) ∧ wp_L_point (scr.2 (v4 + 1)) (scr.2 (v4 + 2)) M (fun x83 M84 => (0 ≤ (v4 + 1) ∧ (v4 + 1) < scr.1) ∧ (0 ≤ (v4 + 2) ∧ (v4 + 2) < scr.1) ∧ ((b + 1 ≤ cap) ∧ wp_X6_point (scr.2 (v4 + 1)) (scr.2 (v4 + 2)) M84 (fun x85 M86 => (b + 1 ≤ cap) ∧ wp_X6_thrown M86 (fun x87 M88 => (am_rg x87) ∧ (am_rg x83) ∧ (x87 = x83 → (am_rg x83) ∧ (¬ x83 = 0 → wl_L_law_23 Q X scr cap n (b + 1) (v4 + 3) M88) ∧ (¬ (¬ x83 = 0) → (am_rg x85) ∧ ((am_rl (M88 80 0) ∧ am_rl x85) ∨ (M88 80 0) = x85) ∧ ((am_rg (am_lci (M88 80 0) x85)) ∧ ((am_lci (M88 80 0) x85) = 0 → wl_L_law_23 Q X scr cap n (b + 1) (v4 + 3) M88) ∧ (¬ (am_lci (M88 80 0) x85) = 0 → Q 0 M88)))) ∧ (¬ x87 = x83 → Q 0 M88))))))) ∧ (((Int32.ofInt (scr.2 v4) &&& Int32.ofInt 31).toInt) = 16 → (0 ≤ (v4 + 1) ∧ (v4 + 1) < scr.1) ∧ (0 ≤ (v4 + 2) ∧ (v4 + 2) < scr.1) ∧ ((b + 1 ≤ cap) ∧ wp_L_error (scr.2 (v4 + 1)) (scr.2 (v4 + 2)) M (fun x89 M90 => (0 ≤ (v4 + 1) ∧ (v4 + 1) < scr.1) ∧ (0 ≤ (v4 + 2) ∧ (v4 + 2) < scr.1) ∧ ((b + 1 ≤ cap) ∧ wp_X6_error (scr.2 (v4 + 1)) (scr.2 (v4 + 2)) M90 (fun x91 M92 => (b + 1 ≤ cap) ∧ wp_X6_thrown M92 (fun x93 M94 => (am_rg x93) ∧ (am_rg x89) ∧ (x93 = x89 → (am_rg x89) ∧ (¬ x89 = 0 → wl_L_law_23 Q X scr cap n (b + 1) (v4 + 3) M94) ∧ (¬ (¬ x89 = 0) → (am_rg x91) ∧ ((am_rl (M94 80 0) ∧ am_rl x91) ∨ (M94 80 0) = x91) ∧ ((am_rg (am_lci (M94 80 0) x91)) ∧ ((am_lci (M94 80 0) x91) = 0 → wl_L_law_23 Q X scr cap n (b + 1) (v4 + 3) M94) ∧ (¬ (am_lci (M94 80 0) x91) = 0 → Q 0 M94)))) ∧ (¬ x93 = x89 → Q 0 M94))))))) ∧ (((Int32.ofInt (scr.2 v4) &&& Int32.ofInt 31).toInt) = 17 → (0 ≤ (v4 + 1) ∧ (v4 + 1) < scr.1) ∧ (0 ≤ (v4 + 2) ∧ (v4 + 2) < scr.1) ∧ ((b + 1 ≤ cap) ∧ wp_L_reading (scr.2 (v4 + 1)) (scr.2 (v4 + 2)) M (fun x95 M96 => (0 ≤ (v4 + 1) ∧ (v4 + 1) < scr.1) ∧ (0 ≤ (v4 + 2) ∧ (v4 + 2) < scr.1) ∧ ((b + 1 ≤ cap) ∧ wp_X6_reading (scr.2 (v4 + 1)) (scr.2 (v4 + 2)) M96 (fun x97 M98 => (b + 1 ≤ cap) ∧ wp_X6_thrown M98 (fun x99 M100 => (am_rg x99) ∧ (am_rg x95) ∧ (x99 = x95 → (am_rg x95) ∧ (¬ x95 = 0 → wl_L_law_23 Q X scr cap n (b + 1) (v4 + 3) M100) ∧ (¬ (¬ x95 = 0) → (am_rg x97) ∧ ((am_rl (M100 80 0) ∧ am_rl x97) ∨ (M100 80 0) = x97) ∧ ((am_rg (am_lci (M100 80 0) x97)) ∧ ((am_lci (M100 80 0) x97) = 0 → wl_L_law_23 Q X scr cap n (b + 1) (v4 + 3) M100) ∧ (¬ (am_lci (M100 80 0) x97) = 0 → Q 0 M100)))) ∧ (¬ x99 = x95 → Q 0 M100))))))) ∧ (((Int32.ofInt (scr.2 v4) &&& Int32.ofInt 31).toInt) = 18 → (0 ≤ (v4 + 1) ∧ (v4 + 1) < scr.1) ∧ (0 ≤ (v4 + 2) ∧ (v4 + 2) < scr.1) ∧ ((b + 1 ≤ cap) ∧ wp_L_stretch (scr.2 (v4 + 1)) (scr.2 (v4 + 2)) M (fun x101 M102 => (0 ≤ (v4 + 1) ∧ (v4 + 1) < scr.1) ∧ (0 ≤ (v4 + 2) ∧ (v4 + 2) < scr.1) ∧ ((b + 1 ≤ cap) ∧ wp_X6_stretch (scr.2 (v4 + 1)) (scr.2 (v4 + 2)) M102 (fun x103 M104 => (b + 1 ≤ cap) ∧ wp_X6_thrown M104 (fun x105 M106 => (am_rg x105) ∧ (am_rg x101) ∧ (x105 = x101 → (am_rg x101) ∧ (¬ x101 = 0 → wl_L_law_23 Q X scr cap n (b + 1) (v4 + 3) M106) ∧ (¬ (¬ x101 = 0) → (am_rg x103) ∧ ((am_rl (M106 80 0) ∧ am_rl x103) ∨ (M106 80 0) = x103) ∧ ((am_rg (am_lci (M106 80 0) x103)) ∧ ((am_lci (M106 80 0) x103) = 0 → wl_L_law_23 Q X scr cap n (b + 1) (v4 + 3) M106) ∧ (¬ (am_lci (M106 80 0) x103) = 0 → Q 0 M106)))) ∧ (¬ x105 = x101 → Q 0 M106))))))) ∧ (((Int32.ofInt (scr.2 v4) &&& Int32.ofInt 31).toInt) = 19 → (0 ≤ (v4 + 1) ∧ (v4 + 1) < scr.1) ∧ (0 ≤ (v4 + 2) ∧ (v4 + 2) < scr.1) ∧ ((b + 1 ≤ cap) ∧ wp_L_noteAt (scr.2 (v4 + 1)) (scr.2 (v4 + 2)) M (fun x107 M108 => (0 ≤ (v4 + 1) ∧ (v4 + 1) < scr.1) ∧ (0 ≤ (v4 + 2) ∧ (v4 + 2) < scr.1) ∧ ((b + 1 ≤ cap) ∧ wp_X6_noteAt (scr.2 (v4 + 1)) (scr.2 (v4 + 2)) M108 (fun x109 M110 => (b + 1 ≤ cap) ∧ wp_X6_thrown M110 (fun x111 M112 => (am_rg x111) ∧ (am_rg x107) ∧ (x111 = x107 → (am_rg x107) ∧ (¬ x107 = 0 → wl_L_law_23 Q X scr cap n (b + 1) (v4 + 3) M112) ∧ (¬ (¬ x107 = 0) → (am_rg x109) ∧ ((am_rl (M112 80 0) ∧ am_rl x109) ∨ (M112 80 0) = x109) ∧ ((am_rg (am_lci (M112 80 0) x109)) ∧ ((am_lci (M112 80 0) x109) = 0 → wl_L_law_23 Q X scr cap n (b + 1) (v4 + 3) M112) ∧ (¬ (am_lci (M112 80 0) x109) = 0 → Q 0 M112)))) ∧ (¬ x111 = x107 → Q 0 M112))))))) ∧ (((Int32.ofInt (scr.2 v4) &&& Int32.ofInt 31).toInt) = 20 → (0 ≤ (v4 + 1) ∧ (v4 + 1) < scr.1) ∧ ((b + 1 ≤ cap) ∧ wp_L_count (scr.2 (v4 + 1)) M (fun x113 M114 => (0 ≤ (v4 + 1) ∧ (v4 + 1) < scr.1) ∧ ((b + 1 ≤ cap) ∧ wp_X6_count (scr.2 (v4 + 1)) M114 (fun x115 M116 => (b + 1 ≤ cap) ∧ wp_X6_thrown M116 (fun x117 M118 => (am_rg x117) ∧ (am_rg x113) ∧ (x117 = x113 → (am_rg x113) ∧ (¬ x113 = 0 → wl_L_law_23 Q X scr cap n (b + 1) (v4 + 3) M118) ∧ (¬ (¬ x113 = 0) → (am_rg x115) ∧ ((am_rl (M118 80 0) ∧ am_rl x115) ∨ (M118 80 0) = x115) ∧ ((am_rg (am_lci (M118 80 0) x115)) ∧ ((am_lci (M118 80 0) x115) = 0 → wl_L_law_23 Q X scr cap n (b + 1) (v4 + 3) M118) ∧ (¬ (am_lci (M118 80 0) x115) = 0 → Q 0 M118)))) ∧ (¬ x117 = x113 → Q 0 M118))))))) ∧ (((Int32.ofInt (scr.2 v4) &&& Int32.ofInt 31).toInt) = 21 → (0 ≤ (v4 + 1) ∧ (v4 + 1) < scr.1) ∧ ((b + 1 ≤ cap) ∧ wp_L_setting (scr.2 (v4 + 1)) M (fun x119 M120 => (0 ≤ (v4 + 1) ∧ (v4 + 1) < scr.1) ∧ ((b + 1 ≤ cap) ∧ wp_X6_setting (scr.2 (v4 + 1)) M120 (fun x121 M122 => (b + 1 ≤ cap) ∧ wp_X6_thrown M122 (fun x123 M124 => (am_rg x123) ∧ (am_rg x119) ∧ (x123 = x119 → (am_rg x119) ∧ (¬ x119 = 0 → wl_L_law_23 Q X scr cap n (b + 1) (v4 + 3) M124) ∧ (¬ (¬ x119 = 0) → (am_rg x121) ∧ ((am_rl (M124 80 0) ∧ am_rl x121) ∨ (M124 80 0) = x121) ∧ ((am_rg (am_lci (M124 80 0) x121)) ∧ ((am_lci (M124 80 0) x121) = 0 → wl_L_law_23 Q X scr cap n (b + 1) (v4 + 3) M124) ∧ (¬ (am_lci (M124 80 0) x121) = 0 → Q 0 M124)))) ∧ (¬ x123 = x119 → Q 0 M124))))))) ∧ (((Int32.ofInt (scr.2 v4) &&& Int32.ofInt 31).toInt) = 22 → (0 ≤ (v4 + 1) ∧ (v4 + 1) < scr.1) ∧ ((am_rg (scr.2 (v4 + 1))) ∧ ((scr.2 (v4 + 1)) = 0 → wj_L_law_1331 Q X scr cap (wl_L_law_23 Q X scr cap n) b v4 0 M) ∧ (¬ (scr.2 (v4 + 1)) = 0 → wj_L_law_1331 Q X scr cap (wl_L_law_23 Q X scr cap n) b v4 1 M))) ∧ (((Int32.ofInt (scr.2 v4) &&& Int32.ofInt 31).toInt) = 23 → (0 ≤ (v4 + 1) ∧ (v4 + 1) < scr.1) ∧ ((b + 1 ≤ cap) ∧ wp_L_whyNot (scr.2 (v4 + 1)) M (fun x129 M130 => (0 ≤ (v4 + 1) ∧ (v4 + 1) < scr.1) ∧ ((b + 1 ≤ cap) ∧ wp_X6_whyNot (scr.2 (v4 + 1)) M130 (fun x131 M132 => (b + 1 ≤ cap) ∧ wp_X6_thrown M132 (fun x133 M134 => (am_rg x133) ∧ (am_rg x129) ∧ (x133 = x129 → (am_rg x129) ∧ (¬ x129 = 0 → wl_L_law_23 Q X scr cap n (b + 1) (v4 + 3) M134) ∧ (¬ (¬ x129 = 0) → (am_rg x131) ∧ ((am_rl (M134 80 0) ∧ am_rl x131) ∨ (M134 80 0) = x131) ∧ ((am_rg (am_lci (M134 80 0) x131)) ∧ ((am_lci (M134 80 0) x131) = 0 → wl_L_law_23 Q X scr cap n (b + 1) (v4 + 3) M134) ∧ (¬ (am_lci (M134 80 0) x131) = 0 → Q 0 M134)))) ∧ (¬ x133 = x129 → Q 0 M134))))))) ∧ (((Int32.ofInt (scr.2 v4) &&& Int32.ofInt 31).toInt) = 24 → (0 ≤ (v4 + 1) ∧ (v4 + 1) < scr.1) ∧ (0 ≤ (v4 + 2) ∧ (v4 + 2) < scr.1) ∧ ((b + 1 ≤ cap) ∧ wp_L_join (scr.2 (v4 + 1)) (scr.2 (v4 + 2)) M (fun x135 M136 => (0 ≤ (v4 + 1) ∧ (v4 + 1) < scr.1) ∧ (0 ≤ (v4 + 2) ∧ (v4 + 2) < scr.1) ∧ ((b + 1 ≤ cap) ∧ wp_X6_join (scr.2 (v4 + 1)) (scr.2 (v4 + 2)) M136 (fun x137 M138 => (b + 1 ≤ cap) ∧ wp_X6_thrown M138 (fun x139 M140 => (am_rg x139) ∧ (am_rg x135) ∧ (x139 = x135 → (am_rg x135) ∧ (¬ x135 = 0 → wl_L_law_23 Q X scr cap n (b + 1) (v4 + 3) M140) ∧ (¬ (¬ x135 = 0) → (am_rg x137) ∧ ((am_rl (M140 80 0) ∧ am_rl x137) ∨ (M140 80 0) = x137) ∧ ((am_rg (am_lci (M140 80 0) x137)) ∧ ((am_lci (M140 80 0) x137) = 0 → wl_L_law_23 Q X scr cap n (b + 1) (v4 + 3) M140) ∧ (¬ (am_lci (M140 80 0) x137) = 0 → Q 0 M140)))) ∧ (¬ x139 = x135 → Q 0 M140))))))) ∧ (((Int32.ofInt (scr.2 v4) &&& Int32.ofInt 31).toInt) = 25 → (0 ≤ (v4 + 1) ∧ (v4 + 1) < scr.1) ∧ ((b + 1 ≤ cap) ∧ wp_L_ifThinned (scr.2 (v4 + 1)) M (fun x141 M142 => (0 ≤ (v4 + 1) ∧ (v4 + 1) < scr.1) ∧ ((b + 1 ≤ cap) ∧ wp_X6_ifThinned (scr.2 (v4 + 1)) M142 (fun x143 M144 => (b + 1 ≤ cap) ∧ wp_X6_thrown M144 (fun x145 M146 => (am_rg x145) ∧ (am_rg x141) ∧ (x145 = x141 → (am_rg x141) ∧ (¬ x141 = 0 → wl_L_law_23 Q X scr cap n (b + 1) (v4 + 3) M146) ∧ (¬ (¬ x141 = 0) → (am_rg x143) ∧ ((am_rl (M146 80 0) ∧ am_rl x143) ∨ (M146 80 0) = x143) ∧ ((am_rg (am_lci (M146 80 0) x143)) ∧ ((am_lci (M146 80 0) x143) = 0 → wl_L_law_23 Q X scr cap n (b + 1) (v4 + 3) M146) ∧ (¬ (am_lci (M146 80 0) x143) = 0 → Q 0 M146)))) ∧ (¬ x145 = x141 → Q 0 M146))))))) ∧ (((Int32.ofInt (scr.2 v4) &&& Int32.ofInt 31).toInt) = 26 → (0 ≤ (v4 + 1) ∧ (v4 + 1) < scr.1) ∧ ((b + 1 ≤ cap) ∧ wp_L_leastOath (scr.2 (v4 + 1)) M (fun x147 M148 => (0 ≤ (v4 + 1) ∧ (v4 + 1) < scr.1) ∧ ((b + 1 ≤ cap) ∧ wp_X6_leastOath (scr.2 (v4 + 1)) M148 (fun x149 M150 => (b + 1 ≤ cap) ∧ wp_X6_thrown M150 (fun x151 M152 => (am_rg x151) ∧ (am_rg x147) ∧ (x151 = x147 → (am_rg x147) ∧ (¬ x147 = 0 → wl_L_law_23 Q X scr cap n (b + 1) (v4 + 3) M152) ∧ (¬ (¬ x147 = 0) → (am_rg x149) ∧ ((am_rl (M152 80 0) ∧ am_rl x149) ∨ (M152 80 0) = x149) ∧ ((am_rg (am_lci (M152 80 0) x149)) ∧ ((am_lci (M152 80 0) x149) = 0 → wl_L_law_23 Q X scr cap n (b + 1) (v4 + 3) M152) ∧ (¬ (am_lci (M152 80 0) x149) = 0 → Q 0 M152)))) ∧ (¬ x151 = x147 → Q 0 M152))))))) ∧ (((Int32.ofInt (scr.2 v4) &&& Int32.ofInt 31).toInt) = 27 → (0 ≤ (v4 + 1) ∧ (v4 + 1) < scr.1) ∧ ((b + 1 ≤ cap) ∧ wp_L_cheapest (scr.2 (v4 + 1)) M (fun x153 M154 => (0 ≤ (v4 + 1) ∧ (v4 + 1) < scr.1) ∧ ((b + 1 ≤ cap) ∧ wp_X6_cheapest (scr.2 (v4 + 1)) M154 (fun x155 M156 => (b + 1 ≤ cap) ∧ wp_X6_thrown M156 (fun x157 M158 => (am_rg x157) ∧ (am_rg x153) ∧ (x157 = x153 → (am_rg x153) ∧ (¬ x153 = 0 → wl_L_law_23 Q X scr cap n (b + 1) (v4 + 3) M158) ∧ (¬ (¬ x153 = 0) → (am_rg x155) ∧ ((am_rl (M158 80 0) ∧ am_rl x155) ∨ (M158 80 0) = x155) ∧ ((am_rg (am_lci (M158 80 0) x155)) ∧ ((am_lci (M158 80 0) x155) = 0 → wl_L_law_23 Q X scr cap n (b + 1) (v4 + 3) M158) ∧ (¬ (am_lci (M158 80 0) x155) = 0 → Q 0 M158)))) ∧ (¬ x157 = x153 → Q 0 M158))))))) ∧ (((Int32.ofInt (scr.2 v4) &&& Int32.ofInt 31).toInt) = 28 → (b ≤ cap) ∧ wp_X5_droppedShare M (fun x159 M160 => (b ≤ cap) ∧ wp_X6_droppedShare M160 (fun x161 M162 => (am_rg ((Op.cmpValue (FP.dcmp x159 x161) .l).toInt)) ∧ (((Op.cmpValue (FP.dcmp x159 x161) .l).toInt) = 0 → wl_L_law_23 Q X scr cap n b (v4 + 3) M162) ∧ (¬ ((Op.cmpValue (FP.dcmp x159 x161) .l).toInt) = 0 → (am_rg ((Op.cmpValue (FP.dcmp x159 x159) .l).toInt)) ∧ (((Op.cmpValue (FP.dcmp x159 x159) .l).toInt) = 0 → Q 0 M162) ∧ (¬ ((Op.cmpValue (FP.dcmp x159 x159) .l).toInt) = 0 → (am_rg ((Op.cmpValue (FP.dcmp x161 x161) .l).toInt)) ∧ (¬ ((Op.cmpValue (FP.dcmp x161 x161) .l).toInt) = 0 → wl_L_law_23 Q X scr cap n b (v4 + 3) M162) ∧ (¬ (¬ ((Op.cmpValue (FP.dcmp x161 x161) .l).toInt) = 0) → Q 0 M162)))))) ∧ (((Int32.ofInt (scr.2 v4) &&& Int32.ofInt 31).toInt) = 29 → (b ≤ cap) ∧ wp_X5_digest M (fun x163 M164 => (b ≤ cap) ∧ wp_X6_digest M164 (fun x165 M166 => ((am_rl x163 ∧ am_rl x165) ∨ x163 = x165) ∧ ((am_rg (am_lci x163 x165)) ∧ ((am_lci x163 x165) = 0 → wl_L_law_23 Q X scr cap n b (v4 + 3) M166) ∧ (¬ (am_lci x163 x165) = 0 → Q 0 M166)))) X)))
set_option maxRecDepth 20000 in
theorem tj_L_law_1349 {Q : Int → am_M → Prop} {X : am_X} {QX : am_X} {scr : Int × (Int → Int)} {cap : Nat} {k23 : Nat → Int → am_M → Prop} (hk23 : ∀ (b : Nat) (v4 : Int) (M : am_M), k23 b v4 M → am_W (am_CC 10) dt_L_law 8 cap scr (am_QI Q) QX (b, 23, [(0, .inr (.inl (some 999))), (1, .inr (.inl (some 0))), (2, .inr (.inl (some 69))), (3, .inr (.inl (some 80))), (4, .inl (v4))], [], M)) (hX : ∀ E M, X E M → QX E M) (b : Nat) (v4 : Int) (s0 : Int) (s2 : Int) (M : am_M) (h : wj_L_law_1349 Q X scr cap k23 b v4 s0 s2 M) : am_W (am_CC 10) dt_L_law 8 cap scr (am_QI Q) QX (b, 1349, [(0, .inr (.inl (some 999))), (1, .inr (.inl (some 0))), (2, .inr (.inl (some 69))), (3, .inr (.inl (some 80))), (4, .inl (v4))], [.inl (s0), .inr (.inl (some 69)), .inr (.inr (.inl (s2)))], M) := by
  obtain ⟨hbc, h⟩ := h
  refine am_WcallV (y := 185) (n := 2) (a := 69) (f := 1352) (as := [.inl (s0)]) (st' := [.inr (.inr (.inl (s2)))]) rfl rfl rfl rfl rfl rfl rfl rfl rfl rfl hbc rfl (am_CC_le (Nat.le_of_ble_eq_true rfl) (tm_X6_area h)) (fun r M128 q => ?_) (fun _ _ q => q.elim)
  obtain ⟨x127, rfl, h⟩ := q
  obtain ⟨c0_0, h⟩ := h
  refine am_Wrun 1 (ps := [(am_rl s2 ∧ am_rl x127) ∨ s2 = x127]) (pc' := 1353) (lv' := [(0, .inr (.inl (some 999))), (1, .inr (.inl (some 0))), (2, .inr (.inl (some 69))), (3, .inr (.inl (some 80))), (4, .inl (v4))]) (st' := [.inl (am_lci s2 x127)]) (M' := M128) rfl ⟨c0_0, trivial⟩ ?_
  obtain ⟨b0, ht, hf⟩ := h
  refine am_Wbr (P := [am_rg (am_lci s2 x127)]) (c := (am_lci s2 x127) = 0) (t := 1705) (f := 1356) (st' := []) rfl rfl ⟨b0, trivial⟩ rfl (fun q => ?_) (fun q => ?_)
  · have h := ht q
    refine am_Wrun 2 (ps := []) (pc' := 23) (lv' := [(4, .inl (v4 + 3)), (0, .inr (.inl (some 999))), (1, .inr (.inl (some 0))), (2, .inr (.inl (some 69))), (3, .inr (.inl (some 80)))]) (st' := []) (M' := M128) rfl trivial ?_
    refine am_W_sub [1, 2, 3, 4, 0] rfl ?_
    exact hk23 b (v4 + 3) M128 h
  · have h := hf q
    refine am_Wrun 1 (ps := []) (pc' := 1357) (lv' := [(0, .inr (.inl (some 999))), (1, .inr (.inl (some 0))), (2, .inr (.inl (some 69))), (3, .inr (.inl (some 80))), (4, .inl (v4))]) (st' := [.inl (0)]) (M' := M128) rfl trivial ?_
    exact am_Wretz rfl rfl (Or.inl rfl) h
set_option maxRecDepth 20000 in
theorem tj_L_law_1331 {Q : Int → am_M → Prop} {X : am_X} {QX : am_X} {scr : Int × (Int → Int)} {cap : Nat} {k23 : Nat → Int → am_M → Prop} (hk23 : ∀ (b : Nat) (v4 : Int) (M : am_M), k23 b v4 M → am_W (am_CC 10) dt_L_law 8 cap scr (am_QI Q) QX (b, 23, [(0, .inr (.inl (some 999))), (1, .inr (.inl (some 0))), (2, .inr (.inl (some 69))), (3, .inr (.inl (some 80))), (4, .inl (v4))], [], M)) (hX : ∀ E M, X E M → QX E M) (b : Nat) (v4 : Int) (s0 : Int) (M : am_M) (h : wj_L_law_1331 Q X scr cap k23 b v4 s0 M) : am_W (am_CC 10) dt_L_law 8 cap scr (am_QI Q) QX (b, 1331, [(0, .inr (.inl (some 999))), (1, .inr (.inl (some 0))), (2, .inr (.inl (some 69))), (3, .inr (.inl (some 80))), (4, .inl (v4))], [.inl (s0), .inr (.inl (some 0))], M) := by
  obtain ⟨hbc, h⟩ := h
  refine am_WcallV (y := 29) (n := 2) (a := 0) (f := 1334) (as := [.inl (s0)]) (st' := []) rfl rfl rfl rfl rfl rfl rfl rfl rfl rfl hbc rfl (am_CC_le (Nat.le_of_ble_eq_true rfl) (tm_X5_area h)) (fun r M126 q => ?_) (fun _ _ q => q.elim)
  obtain ⟨x125, rfl, h⟩ := q
  obtain ⟨c0_0, h⟩ := h
  refine am_Wrun 6 (ps := [0 ≤ (v4 + 1) ∧ (v4 + 1) < scr.1]) (pc' := 1341) (lv' := [(0, .inr (.inl (some 999))), (1, .inr (.inl (some 0))), (2, .inr (.inl (some 69))), (3, .inr (.inl (some 80))), (4, .inl (v4))]) (st' := [.inl (scr.2 (v4 + 1)), .inr (.inl (some 69)), .inr (.inr (.inl (x125)))]) (M' := M126) rfl ⟨c0_0, trivial⟩ ?_
  obtain ⟨b0, ht, hf⟩ := h
  refine am_Wbr (P := [am_rg (scr.2 (v4 + 1))]) (c := (scr.2 (v4 + 1)) = 0) (t := 1348) (f := 1344) (st' := [.inr (.inl (some 69)), .inr (.inr (.inl (x125)))]) rfl rfl ⟨b0, trivial⟩ rfl (fun q => ?_) (fun q => ?_)
  · have h := ht q
    refine am_Wrun 1 (ps := []) (pc' := 1349) (lv' := [(0, .inr (.inl (some 999))), (1, .inr (.inl (some 0))), (2, .inr (.inl (some 69))), (3, .inr (.inl (some 80))), (4, .inl (v4))]) (st' := [.inl (0), .inr (.inl (some 69)), .inr (.inr (.inl (x125)))]) (M' := M126) rfl trivial ?_
    refine am_W_sub [0, 1, 2, 3, 4] rfl ?_
    exact tj_L_law_1349 hk23 hX b v4 0 x125 M126 h
  · have h := hf q
    refine am_Wrun 2 (ps := []) (pc' := 1349) (lv' := [(0, .inr (.inl (some 999))), (1, .inr (.inl (some 0))), (2, .inr (.inl (some 69))), (3, .inr (.inl (some 80))), (4, .inl (v4))]) (st' := [.inl (1), .inr (.inl (some 69)), .inr (.inr (.inl (x125)))]) (M' := M126) rfl trivial ?_
    refine am_W_sub [0, 1, 2, 3, 4] rfl ?_
    exact tj_L_law_1349 hk23 hX b v4 1 x125 M126 h
set_option maxRecDepth 20000 in
theorem tw_L_law_23 {Q : Int → am_M → Prop} {X : am_X} {QX : am_X} {scr : Int × (Int → Int)} {cap : Nat} (hX : ∀ E M, X E M → QX E M) : ∀ (n : Nat) (b : Nat) (v4 : Int) (M : am_M), wl_L_law_23 Q X scr cap n b v4 M → am_W (am_CC 10) dt_L_law 8 cap scr (am_QI Q) QX (b, 23, [(0, .inr (.inl (some 999))), (1, .inr (.inl (some 0))), (2, .inr (.inl (some 69))), (3, .inr (.inl (some 80))), (4, .inl (v4))], [], M)
  | 0, _, _, _, h => h.elim
  | n + 1, b, v4, M, h => by
    refine am_Wrun 5 (ps := []) (pc' := 29) (lv' := [(0, .inr (.inl (some 999))), (1, .inr (.inl (some 0))), (2, .inr (.inl (some 69))), (3, .inr (.inl (some 80))), (4, .inl (v4))]) (st' := [.inl (scr.1 - 3), .inl (v4)]) (M' := M) rfl trivial ?_
    obtain ⟨b0, b1, ht, hf⟩ := h
    refine am_Wbr (P := [am_rg v4, am_rg (scr.1 - 3)]) (c := (scr.1 - 3) < v4) (t := 1711) (f := 32) (st' := []) rfl rfl ⟨b0, b1, trivial⟩ rfl (fun q => ?_) (fun q => ?_)
    · have h := ht q
      refine am_Wrun 1 (ps := []) (pc' := 1712) (lv' := [(0, .inr (.inl (some 999))), (1, .inr (.inl (some 0))), (2, .inr (.inl (some 69))), (3, .inr (.inl (some 80))), (4, .inl (v4))]) (st' := [.inl (1)]) (M' := M) rfl trivial ?_
      exact am_Wretz rfl rfl (Or.inr rfl) h
    · have h := hf q
      obtain ⟨c0_0, h⟩ := h
      refine am_Wrun 5 (ps := [0 ≤ v4 ∧ v4 < scr.1, -128 ≤ (31 : Int) ∧ (31 : Int) ≤ 127]) (pc' := 39) (lv' := [(0, .inr (.inl (some 999))), (1, .inr (.inl (some 0))), (2, .inr (.inl (some 69))), (3, .inr (.inl (some 80))), (4, .inl (v4))]) (st' := [.inl ((Int32.ofInt (scr.2 v4) &&& Int32.ofInt 31).toInt)]) (M' := M) rfl ⟨c0_0, ⟨by decide, by decide⟩, trivial⟩ ?_
      obtain ⟨c0, hd, j0, j1, j2, j3, j4, j5, j6, j7, j8, j9, j10, j11, j12, j13, j14, j15, j16, j17, j18, j19, j20, j21, j22, j23, j24, j25, j26, j27, j28, j29⟩ := h
      refine am_Wsw (n := 30) (t := 1705) rfl c0 rfl (by decide) (fun q => ?_) (fun j hj e2 => ?_)
      · have h := hd q
        refine am_Wrun 2 (ps := []) (pc' := 23) (lv' := [(4, .inl (v4 + 3)), (0, .inr (.inl (some 999))), (1, .inr (.inl (some 0))), (2, .inr (.inl (some 69))), (3, .inr (.inl (some 80)))]) (st' := []) (M' := M) rfl trivial ?_
        refine am_W_sub [1, 2, 3, 4, 0] rfl ?_
        exact tw_L_law_23 hX n b (v4 + 3) M h
      · match j, hj, e2 with
        | 0, _, e2 =>
          have h := j0 e2
          refine ⟨_, 172, rfl, rfl, ?_⟩
          obtain ⟨c0_0, c1_0, h⟩ := h
          refine am_Wrun 12 (ps := [0 ≤ (v4 + 1) ∧ (v4 + 1) < scr.1, 0 ≤ (v4 + 2) ∧ (v4 + 2) < scr.1]) (pc' := 186) (lv' := [(0, .inr (.inl (some 999))), (1, .inr (.inl (some 0))), (2, .inr (.inl (some 69))), (3, .inr (.inl (some 80))), (4, .inl (v4))]) (st' := [.inr (.inl (some 80)), .inl (scr.2 (v4 + 2)), .inl (scr.2 (v4 + 1)), .inr (.inl (some 0))]) (M' := M) rfl ⟨c0_0, c1_0, trivial⟩ ?_
          obtain ⟨hcap, h⟩ := h
          refine am_WcallS (y := 199) (n := 4) (f := 189) (co := 1) (as := [.inr (.inl (some 0)), .inl (scr.2 (v4 + 1)), .inl (scr.2 (v4 + 2)), .inr (.inl (some 80))]) (st' := []) rfl rfl rfl rfl rfl rfl rfl rfl rfl hcap rfl (am_CC_le (Nat.le_of_ble_eq_true rfl) (tm_L_add h)) (fun r M2 q => ?_) (fun _ _ q => q.elim)
          obtain ⟨x1, rfl, h⟩ := q
          obtain ⟨c0_0, c1_0, h⟩ := h
          refine am_Wrun 12 (ps := [0 ≤ (v4 + 1) ∧ (v4 + 1) < scr.1, 0 ≤ (v4 + 2) ∧ (v4 + 2) < scr.1]) (pc' := 204) (lv' := [(5, .inl (x1)), (0, .inr (.inl (some 999))), (1, .inr (.inl (some 0))), (2, .inr (.inl (some 69))), (3, .inr (.inl (some 80))), (4, .inl (v4))]) (st' := [.inl (scr.2 (v4 + 2)), .inl (scr.2 (v4 + 1)), .inr (.inl (some 69))]) (M' := M2) rfl ⟨c0_0, c1_0, trivial⟩ ?_
          obtain ⟨hbc, h⟩ := h
          refine am_WcallV (y := 110) (n := 3) (a := 69) (f := 207) (as := [.inl (scr.2 (v4 + 1)), .inl (scr.2 (v4 + 2))]) (st' := []) rfl rfl rfl rfl rfl rfl rfl rfl rfl rfl hbc rfl (am_CC_le (Nat.le_of_ble_eq_true rfl) (tm_X6_add h)) (fun r M4 q => ?_) (fun _ _ q => q.elim)
          obtain ⟨x3, rfl, h⟩ := q
          refine am_Wrun 2 (ps := []) (pc' := 210) (lv' := [(6, .inl (x3)), (5, .inl (x1)), (0, .inr (.inl (some 999))), (1, .inr (.inl (some 0))), (2, .inr (.inl (some 69))), (3, .inr (.inl (some 80))), (4, .inl (v4))]) (st' := [.inr (.inl (some 69))]) (M' := M4) rfl trivial ?_
          obtain ⟨hbc, h⟩ := h
          refine am_WcallV (y := 109) (n := 1) (a := 69) (f := 213) (as := []) (st' := []) rfl rfl rfl rfl rfl rfl rfl rfl rfl rfl hbc rfl (am_CC_le (Nat.le_of_ble_eq_true rfl) (tm_X6_thrown h)) (fun r M6 q => ?_) (fun _ _ q => q.elim)
          obtain ⟨x5, rfl, h⟩ := q
          refine am_Wrun 1 (ps := []) (pc' := 215) (lv' := [(6, .inl (x3)), (5, .inl (x1)), (0, .inr (.inl (some 999))), (1, .inr (.inl (some 0))), (2, .inr (.inl (some 69))), (3, .inr (.inl (some 80))), (4, .inl (v4))]) (st' := [.inl (x1), .inl (x5)]) (M' := M6) rfl trivial ?_
          obtain ⟨b0, b1, ht, hf⟩ := h
          refine am_Wbr (P := [am_rg x5, am_rg x1]) (c := x5 = x1) (t := 220) (f := 218) (st' := []) rfl rfl ⟨b0, b1, trivial⟩ rfl (fun q => ?_) (fun q => ?_)
          · have h := ht q
            refine am_Wrun 1 (ps := []) (pc' := 222) (lv' := [(6, .inl (x3)), (5, .inl (x1)), (0, .inr (.inl (some 999))), (1, .inr (.inl (some 0))), (2, .inr (.inl (some 69))), (3, .inr (.inl (some 80))), (4, .inl (v4))]) (st' := [.inl (x1)]) (M' := M6) rfl trivial ?_
            obtain ⟨b0, ht, hf⟩ := h
            refine am_Wbr (P := [am_rg x1]) (c := ¬ x1 = 0) (t := 237) (f := 225) (st' := []) rfl rfl ⟨b0, trivial⟩ rfl (fun q => ?_) (fun q => ?_)
            · have h := ht q
              refine am_Wrun 3 (ps := []) (pc' := 23) (lv' := [(4, .inl (v4 + 3)), (6, .inl (x3)), (5, .inl (x1)), (0, .inr (.inl (some 999))), (1, .inr (.inl (some 0))), (2, .inr (.inl (some 69))), (3, .inr (.inl (some 80)))]) (st' := []) (M' := M6) rfl trivial ?_
              refine am_W_sub [3, 4, 5, 6, 0] rfl ?_
              exact tw_L_law_23 hX n (b + 1) (v4 + 3) M6 h
            · have h := hf q
              obtain ⟨c1_0, c2_0, h⟩ := h
              refine am_Wrun 6 (ps := [0 ≤ (0 : Int) ∧ (0 : Int) < 1, am_rg x3, (am_rl (M6 80 0) ∧ am_rl x3) ∨ (M6 80 0) = x3]) (pc' := 232) (lv' := [(6, .inl (x3)), (5, .inl (x1)), (0, .inr (.inl (some 999))), (1, .inr (.inl (some 0))), (2, .inr (.inl (some 69))), (3, .inr (.inl (some 80))), (4, .inl (v4))]) (st' := [.inl (am_lci (M6 80 0) x3)]) (M' := M6) rfl ⟨⟨by decide, by decide⟩, c1_0, c2_0, trivial⟩ ?_
              obtain ⟨b0, ht, hf⟩ := h
              refine am_Wbr (P := [am_rg (am_lci (M6 80 0) x3)]) (c := (am_lci (M6 80 0) x3) = 0) (t := 237) (f := 235) (st' := []) rfl rfl ⟨b0, trivial⟩ rfl (fun q => ?_) (fun q => ?_)
              · have h := ht q
                refine am_Wrun 3 (ps := []) (pc' := 23) (lv' := [(4, .inl (v4 + 3)), (6, .inl (x3)), (5, .inl (x1)), (0, .inr (.inl (some 999))), (1, .inr (.inl (some 0))), (2, .inr (.inl (some 69))), (3, .inr (.inl (some 80)))]) (st' := []) (M' := M6) rfl trivial ?_
                refine am_W_sub [3, 4, 5, 6, 0] rfl ?_
                exact tw_L_law_23 hX n (b + 1) (v4 + 3) M6 h
              · have h := hf q
                refine am_Wrun 1 (ps := []) (pc' := 236) (lv' := [(6, .inl (x3)), (5, .inl (x1)), (0, .inr (.inl (some 999))), (1, .inr (.inl (some 0))), (2, .inr (.inl (some 69))), (3, .inr (.inl (some 80))), (4, .inl (v4))]) (st' := [.inl (0)]) (M' := M6) rfl trivial ?_
                exact am_Wretz rfl rfl (Or.inl rfl) h
          · have h := hf q
            refine am_Wrun 1 (ps := []) (pc' := 219) (lv' := [(6, .inl (x3)), (5, .inl (x1)), (0, .inr (.inl (some 999))), (1, .inr (.inl (some 0))), (2, .inr (.inl (some 69))), (3, .inr (.inl (some 80))), (4, .inl (v4))]) (st' := [.inl (0)]) (M' := M6) rfl trivial ?_
            exact am_Wretz rfl rfl (Or.inl rfl) h
        | 1, _, e2 =>
          have h := j1 e2
          refine ⟨_, 240, rfl, rfl, ?_⟩
          obtain ⟨c0_0, c1_0, h⟩ := h
          refine am_Wrun 12 (ps := [0 ≤ (v4 + 1) ∧ (v4 + 1) < scr.1, 0 ≤ (v4 + 2) ∧ (v4 + 2) < scr.1]) (pc' := 254) (lv' := [(0, .inr (.inl (some 999))), (1, .inr (.inl (some 0))), (2, .inr (.inl (some 69))), (3, .inr (.inl (some 80))), (4, .inl (v4))]) (st' := [.inr (.inl (some 80)), .inl (scr.2 (v4 + 2)), .inl (scr.2 (v4 + 1)), .inr (.inl (some 0))]) (M' := M) rfl ⟨c0_0, c1_0, trivial⟩ ?_
          obtain ⟨hcap, h⟩ := h
          refine am_WcallS (y := 200) (n := 4) (f := 257) (co := 1) (as := [.inr (.inl (some 0)), .inl (scr.2 (v4 + 1)), .inl (scr.2 (v4 + 2)), .inr (.inl (some 80))]) (st' := []) rfl rfl rfl rfl rfl rfl rfl rfl rfl hcap rfl (am_CC_le (Nat.le_of_ble_eq_true rfl) (tm_L_correct h)) (fun r M8 q => ?_) (fun _ _ q => q.elim)
          obtain ⟨x7, rfl, h⟩ := q
          obtain ⟨c0_0, c1_0, h⟩ := h
          refine am_Wrun 12 (ps := [0 ≤ (v4 + 1) ∧ (v4 + 1) < scr.1, 0 ≤ (v4 + 2) ∧ (v4 + 2) < scr.1]) (pc' := 272) (lv' := [(5, .inl (x7)), (0, .inr (.inl (some 999))), (1, .inr (.inl (some 0))), (2, .inr (.inl (some 69))), (3, .inr (.inl (some 80))), (4, .inl (v4))]) (st' := [.inl (scr.2 (v4 + 2)), .inl (scr.2 (v4 + 1)), .inr (.inl (some 69))]) (M' := M8) rfl ⟨c0_0, c1_0, trivial⟩ ?_
          obtain ⟨hbc, h⟩ := h
          refine am_WcallV (y := 118) (n := 3) (a := 69) (f := 275) (as := [.inl (scr.2 (v4 + 1)), .inl (scr.2 (v4 + 2))]) (st' := []) rfl rfl rfl rfl rfl rfl rfl rfl rfl rfl hbc rfl (am_CC_le (Nat.le_of_ble_eq_true rfl) (tm_X6_correct h)) (fun r M10 q => ?_) (fun _ _ q => q.elim)
          obtain ⟨x9, rfl, h⟩ := q
          refine am_Wrun 2 (ps := []) (pc' := 278) (lv' := [(6, .inl (x9)), (5, .inl (x7)), (0, .inr (.inl (some 999))), (1, .inr (.inl (some 0))), (2, .inr (.inl (some 69))), (3, .inr (.inl (some 80))), (4, .inl (v4))]) (st' := [.inr (.inl (some 69))]) (M' := M10) rfl trivial ?_
          obtain ⟨hbc, h⟩ := h
          refine am_WcallV (y := 109) (n := 1) (a := 69) (f := 281) (as := []) (st' := []) rfl rfl rfl rfl rfl rfl rfl rfl rfl rfl hbc rfl (am_CC_le (Nat.le_of_ble_eq_true rfl) (tm_X6_thrown h)) (fun r M12 q => ?_) (fun _ _ q => q.elim)
          obtain ⟨x11, rfl, h⟩ := q
          refine am_Wrun 1 (ps := []) (pc' := 283) (lv' := [(6, .inl (x9)), (5, .inl (x7)), (0, .inr (.inl (some 999))), (1, .inr (.inl (some 0))), (2, .inr (.inl (some 69))), (3, .inr (.inl (some 80))), (4, .inl (v4))]) (st' := [.inl (x7), .inl (x11)]) (M' := M12) rfl trivial ?_
          obtain ⟨b0, b1, ht, hf⟩ := h
          refine am_Wbr (P := [am_rg x11, am_rg x7]) (c := x11 = x7) (t := 288) (f := 286) (st' := []) rfl rfl ⟨b0, b1, trivial⟩ rfl (fun q => ?_) (fun q => ?_)
          · have h := ht q
            refine am_Wrun 1 (ps := []) (pc' := 290) (lv' := [(6, .inl (x9)), (5, .inl (x7)), (0, .inr (.inl (some 999))), (1, .inr (.inl (some 0))), (2, .inr (.inl (some 69))), (3, .inr (.inl (some 80))), (4, .inl (v4))]) (st' := [.inl (x7)]) (M' := M12) rfl trivial ?_
            obtain ⟨b0, ht, hf⟩ := h
            refine am_Wbr (P := [am_rg x7]) (c := ¬ x7 = 0) (t := 305) (f := 293) (st' := []) rfl rfl ⟨b0, trivial⟩ rfl (fun q => ?_) (fun q => ?_)
            · have h := ht q
              refine am_Wrun 3 (ps := []) (pc' := 23) (lv' := [(4, .inl (v4 + 3)), (6, .inl (x9)), (5, .inl (x7)), (0, .inr (.inl (some 999))), (1, .inr (.inl (some 0))), (2, .inr (.inl (some 69))), (3, .inr (.inl (some 80)))]) (st' := []) (M' := M12) rfl trivial ?_
              refine am_W_sub [3, 4, 5, 6, 0] rfl ?_
              exact tw_L_law_23 hX n (b + 1) (v4 + 3) M12 h
            · have h := hf q
              obtain ⟨c1_0, c2_0, h⟩ := h
              refine am_Wrun 6 (ps := [0 ≤ (0 : Int) ∧ (0 : Int) < 1, am_rg x9, (am_rl (M12 80 0) ∧ am_rl x9) ∨ (M12 80 0) = x9]) (pc' := 300) (lv' := [(6, .inl (x9)), (5, .inl (x7)), (0, .inr (.inl (some 999))), (1, .inr (.inl (some 0))), (2, .inr (.inl (some 69))), (3, .inr (.inl (some 80))), (4, .inl (v4))]) (st' := [.inl (am_lci (M12 80 0) x9)]) (M' := M12) rfl ⟨⟨by decide, by decide⟩, c1_0, c2_0, trivial⟩ ?_
              obtain ⟨b0, ht, hf⟩ := h
              refine am_Wbr (P := [am_rg (am_lci (M12 80 0) x9)]) (c := (am_lci (M12 80 0) x9) = 0) (t := 305) (f := 303) (st' := []) rfl rfl ⟨b0, trivial⟩ rfl (fun q => ?_) (fun q => ?_)
              · have h := ht q
                refine am_Wrun 3 (ps := []) (pc' := 23) (lv' := [(4, .inl (v4 + 3)), (6, .inl (x9)), (5, .inl (x7)), (0, .inr (.inl (some 999))), (1, .inr (.inl (some 0))), (2, .inr (.inl (some 69))), (3, .inr (.inl (some 80)))]) (st' := []) (M' := M12) rfl trivial ?_
                refine am_W_sub [3, 4, 5, 6, 0] rfl ?_
                exact tw_L_law_23 hX n (b + 1) (v4 + 3) M12 h
              · have h := hf q
                refine am_Wrun 1 (ps := []) (pc' := 304) (lv' := [(6, .inl (x9)), (5, .inl (x7)), (0, .inr (.inl (some 999))), (1, .inr (.inl (some 0))), (2, .inr (.inl (some 69))), (3, .inr (.inl (some 80))), (4, .inl (v4))]) (st' := [.inl (0)]) (M' := M12) rfl trivial ?_
                exact am_Wretz rfl rfl (Or.inl rfl) h
          · have h := hf q
            refine am_Wrun 1 (ps := []) (pc' := 287) (lv' := [(6, .inl (x9)), (5, .inl (x7)), (0, .inr (.inl (some 999))), (1, .inr (.inl (some 0))), (2, .inr (.inl (some 69))), (3, .inr (.inl (some 80))), (4, .inl (v4))]) (st' := [.inl (0)]) (M' := M12) rfl trivial ?_
            exact am_Wretz rfl rfl (Or.inl rfl) h
        | 2, _, e2 =>
          have h := j2 e2
          refine ⟨_, 308, rfl, rfl, ?_⟩
          obtain ⟨c0_0, h⟩ := h
          refine am_Wrun 7 (ps := [0 ≤ (v4 + 1) ∧ (v4 + 1) < scr.1]) (pc' := 316) (lv' := [(0, .inr (.inl (some 999))), (1, .inr (.inl (some 0))), (2, .inr (.inl (some 69))), (3, .inr (.inl (some 80))), (4, .inl (v4))]) (st' := [.inr (.inl (some 80)), .inl (scr.2 (v4 + 1)), .inr (.inl (some 0))]) (M' := M) rfl ⟨c0_0, trivial⟩ ?_
          obtain ⟨hcap, h⟩ := h
          refine am_WcallS (y := 201) (n := 3) (f := 319) (co := 1) (as := [.inr (.inl (some 0)), .inl (scr.2 (v4 + 1)), .inr (.inl (some 80))]) (st' := []) rfl rfl rfl rfl rfl rfl rfl rfl rfl hcap rfl (am_CC_le (Nat.le_of_ble_eq_true rfl) (tm_L_drop h)) (fun r M14 q => ?_) (fun _ _ q => q.elim)
          obtain ⟨x13, rfl, h⟩ := q
          obtain ⟨c0_0, h⟩ := h
          refine am_Wrun 7 (ps := [0 ≤ (v4 + 1) ∧ (v4 + 1) < scr.1]) (pc' := 328) (lv' := [(5, .inl (x13)), (0, .inr (.inl (some 999))), (1, .inr (.inl (some 0))), (2, .inr (.inl (some 69))), (3, .inr (.inl (some 80))), (4, .inl (v4))]) (st' := [.inl (scr.2 (v4 + 1)), .inr (.inl (some 69))]) (M' := M14) rfl ⟨c0_0, trivial⟩ ?_
          obtain ⟨hbc, h⟩ := h
          refine am_WcallV (y := 121) (n := 2) (a := 69) (f := 331) (as := [.inl (scr.2 (v4 + 1))]) (st' := []) rfl rfl rfl rfl rfl rfl rfl rfl rfl rfl hbc rfl (am_CC_le (Nat.le_of_ble_eq_true rfl) (tm_X6_drop h)) (fun r M16 q => ?_) (fun _ _ q => q.elim)
          obtain ⟨x15, rfl, h⟩ := q
          refine am_Wrun 2 (ps := []) (pc' := 334) (lv' := [(6, .inl (x15)), (5, .inl (x13)), (0, .inr (.inl (some 999))), (1, .inr (.inl (some 0))), (2, .inr (.inl (some 69))), (3, .inr (.inl (some 80))), (4, .inl (v4))]) (st' := [.inr (.inl (some 69))]) (M' := M16) rfl trivial ?_
          obtain ⟨hbc, h⟩ := h
          refine am_WcallV (y := 109) (n := 1) (a := 69) (f := 337) (as := []) (st' := []) rfl rfl rfl rfl rfl rfl rfl rfl rfl rfl hbc rfl (am_CC_le (Nat.le_of_ble_eq_true rfl) (tm_X6_thrown h)) (fun r M18 q => ?_) (fun _ _ q => q.elim)
          obtain ⟨x17, rfl, h⟩ := q
          refine am_Wrun 1 (ps := []) (pc' := 339) (lv' := [(6, .inl (x15)), (5, .inl (x13)), (0, .inr (.inl (some 999))), (1, .inr (.inl (some 0))), (2, .inr (.inl (some 69))), (3, .inr (.inl (some 80))), (4, .inl (v4))]) (st' := [.inl (x13), .inl (x17)]) (M' := M18) rfl trivial ?_
          obtain ⟨b0, b1, ht, hf⟩ := h
          refine am_Wbr (P := [am_rg x17, am_rg x13]) (c := x17 = x13) (t := 344) (f := 342) (st' := []) rfl rfl ⟨b0, b1, trivial⟩ rfl (fun q => ?_) (fun q => ?_)
          · have h := ht q
            refine am_Wrun 1 (ps := []) (pc' := 346) (lv' := [(6, .inl (x15)), (5, .inl (x13)), (0, .inr (.inl (some 999))), (1, .inr (.inl (some 0))), (2, .inr (.inl (some 69))), (3, .inr (.inl (some 80))), (4, .inl (v4))]) (st' := [.inl (x13)]) (M' := M18) rfl trivial ?_
            obtain ⟨b0, ht, hf⟩ := h
            refine am_Wbr (P := [am_rg x13]) (c := ¬ x13 = 0) (t := 361) (f := 349) (st' := []) rfl rfl ⟨b0, trivial⟩ rfl (fun q => ?_) (fun q => ?_)
            · have h := ht q
              refine am_Wrun 3 (ps := []) (pc' := 23) (lv' := [(4, .inl (v4 + 3)), (6, .inl (x15)), (5, .inl (x13)), (0, .inr (.inl (some 999))), (1, .inr (.inl (some 0))), (2, .inr (.inl (some 69))), (3, .inr (.inl (some 80)))]) (st' := []) (M' := M18) rfl trivial ?_
              refine am_W_sub [3, 4, 5, 6, 0] rfl ?_
              exact tw_L_law_23 hX n (b + 1) (v4 + 3) M18 h
            · have h := hf q
              obtain ⟨c1_0, c2_0, h⟩ := h
              refine am_Wrun 6 (ps := [0 ≤ (0 : Int) ∧ (0 : Int) < 1, am_rg x15, (am_rl (M18 80 0) ∧ am_rl x15) ∨ (M18 80 0) = x15]) (pc' := 356) (lv' := [(6, .inl (x15)), (5, .inl (x13)), (0, .inr (.inl (some 999))), (1, .inr (.inl (some 0))), (2, .inr (.inl (some 69))), (3, .inr (.inl (some 80))), (4, .inl (v4))]) (st' := [.inl (am_lci (M18 80 0) x15)]) (M' := M18) rfl ⟨⟨by decide, by decide⟩, c1_0, c2_0, trivial⟩ ?_
              obtain ⟨b0, ht, hf⟩ := h
              refine am_Wbr (P := [am_rg (am_lci (M18 80 0) x15)]) (c := (am_lci (M18 80 0) x15) = 0) (t := 361) (f := 359) (st' := []) rfl rfl ⟨b0, trivial⟩ rfl (fun q => ?_) (fun q => ?_)
              · have h := ht q
                refine am_Wrun 3 (ps := []) (pc' := 23) (lv' := [(4, .inl (v4 + 3)), (6, .inl (x15)), (5, .inl (x13)), (0, .inr (.inl (some 999))), (1, .inr (.inl (some 0))), (2, .inr (.inl (some 69))), (3, .inr (.inl (some 80)))]) (st' := []) (M' := M18) rfl trivial ?_
                refine am_W_sub [3, 4, 5, 6, 0] rfl ?_
                exact tw_L_law_23 hX n (b + 1) (v4 + 3) M18 h
              · have h := hf q
                refine am_Wrun 1 (ps := []) (pc' := 360) (lv' := [(6, .inl (x15)), (5, .inl (x13)), (0, .inr (.inl (some 999))), (1, .inr (.inl (some 0))), (2, .inr (.inl (some 69))), (3, .inr (.inl (some 80))), (4, .inl (v4))]) (st' := [.inl (0)]) (M' := M18) rfl trivial ?_
                exact am_Wretz rfl rfl (Or.inl rfl) h
          · have h := hf q
            refine am_Wrun 1 (ps := []) (pc' := 343) (lv' := [(6, .inl (x15)), (5, .inl (x13)), (0, .inr (.inl (some 999))), (1, .inr (.inl (some 0))), (2, .inr (.inl (some 69))), (3, .inr (.inl (some 80))), (4, .inl (v4))]) (st' := [.inl (0)]) (M' := M18) rfl trivial ?_
            exact am_Wretz rfl rfl (Or.inl rfl) h
        | 3, _, e2 =>
          have h := j3 e2
          refine ⟨_, 364, rfl, rfl, ?_⟩
          obtain ⟨c0_0, h⟩ := h
          refine am_Wrun 7 (ps := [0 ≤ (v4 + 1) ∧ (v4 + 1) < scr.1]) (pc' := 372) (lv' := [(0, .inr (.inl (some 999))), (1, .inr (.inl (some 0))), (2, .inr (.inl (some 69))), (3, .inr (.inl (some 80))), (4, .inl (v4))]) (st' := [.inr (.inl (some 80)), .inl (scr.2 (v4 + 1)), .inr (.inl (some 0))]) (M' := M) rfl ⟨c0_0, trivial⟩ ?_
          obtain ⟨hcap, h⟩ := h
          refine am_WcallS (y := 202) (n := 3) (f := 375) (co := 1) (as := [.inr (.inl (some 0)), .inl (scr.2 (v4 + 1)), .inr (.inl (some 80))]) (st' := []) rfl rfl rfl rfl rfl rfl rfl rfl rfl hcap rfl (am_CC_le (Nat.le_of_ble_eq_true rfl) (tm_L_keep h)) (fun r M20 q => ?_) (fun _ _ q => q.elim)
          obtain ⟨x19, rfl, h⟩ := q
          obtain ⟨c0_0, h⟩ := h
          refine am_Wrun 7 (ps := [0 ≤ (v4 + 1) ∧ (v4 + 1) < scr.1]) (pc' := 384) (lv' := [(5, .inl (x19)), (0, .inr (.inl (some 999))), (1, .inr (.inl (some 0))), (2, .inr (.inl (some 69))), (3, .inr (.inl (some 80))), (4, .inl (v4))]) (st' := [.inl (scr.2 (v4 + 1)), .inr (.inl (some 69))]) (M' := M20) rfl ⟨c0_0, trivial⟩ ?_
          obtain ⟨hbc, h⟩ := h
          refine am_WcallV (y := 136) (n := 2) (a := 69) (f := 387) (as := [.inl (scr.2 (v4 + 1))]) (st' := []) rfl rfl rfl rfl rfl rfl rfl rfl rfl rfl hbc rfl (am_CC_le (Nat.le_of_ble_eq_true rfl) (tm_X6_keep h)) (fun r M22 q => ?_) (fun _ _ q => q.elim)
          obtain ⟨x21, rfl, h⟩ := q
          refine am_Wrun 2 (ps := []) (pc' := 390) (lv' := [(6, .inl (x21)), (5, .inl (x19)), (0, .inr (.inl (some 999))), (1, .inr (.inl (some 0))), (2, .inr (.inl (some 69))), (3, .inr (.inl (some 80))), (4, .inl (v4))]) (st' := [.inr (.inl (some 69))]) (M' := M22) rfl trivial ?_
          obtain ⟨hbc, h⟩ := h
          refine am_WcallV (y := 109) (n := 1) (a := 69) (f := 393) (as := []) (st' := []) rfl rfl rfl rfl rfl rfl rfl rfl rfl rfl hbc rfl (am_CC_le (Nat.le_of_ble_eq_true rfl) (tm_X6_thrown h)) (fun r M24 q => ?_) (fun _ _ q => q.elim)
          obtain ⟨x23, rfl, h⟩ := q
          refine am_Wrun 1 (ps := []) (pc' := 395) (lv' := [(6, .inl (x21)), (5, .inl (x19)), (0, .inr (.inl (some 999))), (1, .inr (.inl (some 0))), (2, .inr (.inl (some 69))), (3, .inr (.inl (some 80))), (4, .inl (v4))]) (st' := [.inl (x19), .inl (x23)]) (M' := M24) rfl trivial ?_
          obtain ⟨b0, b1, ht, hf⟩ := h
          refine am_Wbr (P := [am_rg x23, am_rg x19]) (c := x23 = x19) (t := 400) (f := 398) (st' := []) rfl rfl ⟨b0, b1, trivial⟩ rfl (fun q => ?_) (fun q => ?_)
          · have h := ht q
            refine am_Wrun 1 (ps := []) (pc' := 402) (lv' := [(6, .inl (x21)), (5, .inl (x19)), (0, .inr (.inl (some 999))), (1, .inr (.inl (some 0))), (2, .inr (.inl (some 69))), (3, .inr (.inl (some 80))), (4, .inl (v4))]) (st' := [.inl (x19)]) (M' := M24) rfl trivial ?_
            obtain ⟨b0, ht, hf⟩ := h
            refine am_Wbr (P := [am_rg x19]) (c := ¬ x19 = 0) (t := 417) (f := 405) (st' := []) rfl rfl ⟨b0, trivial⟩ rfl (fun q => ?_) (fun q => ?_)
            · have h := ht q
              refine am_Wrun 3 (ps := []) (pc' := 23) (lv' := [(4, .inl (v4 + 3)), (6, .inl (x21)), (5, .inl (x19)), (0, .inr (.inl (some 999))), (1, .inr (.inl (some 0))), (2, .inr (.inl (some 69))), (3, .inr (.inl (some 80)))]) (st' := []) (M' := M24) rfl trivial ?_
              refine am_W_sub [3, 4, 5, 6, 0] rfl ?_
              exact tw_L_law_23 hX n (b + 1) (v4 + 3) M24 h
            · have h := hf q
              obtain ⟨c1_0, c2_0, h⟩ := h
              refine am_Wrun 6 (ps := [0 ≤ (0 : Int) ∧ (0 : Int) < 1, am_rg x21, (am_rl (M24 80 0) ∧ am_rl x21) ∨ (M24 80 0) = x21]) (pc' := 412) (lv' := [(6, .inl (x21)), (5, .inl (x19)), (0, .inr (.inl (some 999))), (1, .inr (.inl (some 0))), (2, .inr (.inl (some 69))), (3, .inr (.inl (some 80))), (4, .inl (v4))]) (st' := [.inl (am_lci (M24 80 0) x21)]) (M' := M24) rfl ⟨⟨by decide, by decide⟩, c1_0, c2_0, trivial⟩ ?_
              obtain ⟨b0, ht, hf⟩ := h
              refine am_Wbr (P := [am_rg (am_lci (M24 80 0) x21)]) (c := (am_lci (M24 80 0) x21) = 0) (t := 417) (f := 415) (st' := []) rfl rfl ⟨b0, trivial⟩ rfl (fun q => ?_) (fun q => ?_)
              · have h := ht q
                refine am_Wrun 3 (ps := []) (pc' := 23) (lv' := [(4, .inl (v4 + 3)), (6, .inl (x21)), (5, .inl (x19)), (0, .inr (.inl (some 999))), (1, .inr (.inl (some 0))), (2, .inr (.inl (some 69))), (3, .inr (.inl (some 80)))]) (st' := []) (M' := M24) rfl trivial ?_
                refine am_W_sub [3, 4, 5, 6, 0] rfl ?_
                exact tw_L_law_23 hX n (b + 1) (v4 + 3) M24 h
              · have h := hf q
                refine am_Wrun 1 (ps := []) (pc' := 416) (lv' := [(6, .inl (x21)), (5, .inl (x19)), (0, .inr (.inl (some 999))), (1, .inr (.inl (some 0))), (2, .inr (.inl (some 69))), (3, .inr (.inl (some 80))), (4, .inl (v4))]) (st' := [.inl (0)]) (M' := M24) rfl trivial ?_
                exact am_Wretz rfl rfl (Or.inl rfl) h
          · have h := hf q
            refine am_Wrun 1 (ps := []) (pc' := 399) (lv' := [(6, .inl (x21)), (5, .inl (x19)), (0, .inr (.inl (some 999))), (1, .inr (.inl (some 0))), (2, .inr (.inl (some 69))), (3, .inr (.inl (some 80))), (4, .inl (v4))]) (st' := [.inl (0)]) (M' := M24) rfl trivial ?_
            exact am_Wretz rfl rfl (Or.inl rfl) h
        | 4, _, e2 =>
          have h := j4 e2
          refine ⟨_, 420, rfl, rfl, ?_⟩
          refine am_Wrun 1 (ps := []) (pc' := 421) (lv' := [(0, .inr (.inl (some 999))), (1, .inr (.inl (some 0))), (2, .inr (.inl (some 69))), (3, .inr (.inl (some 80))), (4, .inl (v4))]) (st' := [.inr (.inl (some 0))]) (M' := M) rfl trivial ?_
          obtain ⟨hbc, h⟩ := h
          refine am_WcallV (y := 0) (n := 1) (a := 0) (f := 424) (as := []) (st' := []) rfl rfl rfl rfl rfl rfl rfl rfl rfl rfl hbc rfl (am_CC_le (Nat.le_of_ble_eq_true rfl) (tm_X5_mend h)) (fun r M26 q => ?_) (fun _ _ q => q.elim)
          obtain ⟨x25, rfl, h⟩ := q
          refine am_Wrun 1 (ps := []) (pc' := 425) (lv' := [(0, .inr (.inl (some 999))), (1, .inr (.inl (some 0))), (2, .inr (.inl (some 69))), (3, .inr (.inl (some 80))), (4, .inl (v4))]) (st' := [.inr (.inl (some 69)), .inl (x25)]) (M' := M26) rfl trivial ?_
          obtain ⟨hbc, h⟩ := h
          refine am_WcallV (y := 137) (n := 1) (a := 69) (f := 428) (as := []) (st' := [.inl (x25)]) rfl rfl rfl rfl rfl rfl rfl rfl rfl rfl hbc rfl (am_CC_le (Nat.le_of_ble_eq_true rfl) (tm_X6_mend h)) (fun r M28 q => ?_) (fun _ _ q => q.elim)
          obtain ⟨x27, rfl, h⟩ := q
          obtain ⟨b0, b1, ht, hf⟩ := h
          refine am_Wbr (P := [am_rg x25, am_rg x27]) (c := x25 = x27) (t := 1705) (f := 431) (st' := []) rfl rfl ⟨b0, b1, trivial⟩ rfl (fun q => ?_) (fun q => ?_)
          · have h := ht q
            refine am_Wrun 2 (ps := []) (pc' := 23) (lv' := [(4, .inl (v4 + 3)), (0, .inr (.inl (some 999))), (1, .inr (.inl (some 0))), (2, .inr (.inl (some 69))), (3, .inr (.inl (some 80)))]) (st' := []) (M' := M28) rfl trivial ?_
            refine am_W_sub [1, 2, 3, 4, 0] rfl ?_
            exact tw_L_law_23 hX n b (v4 + 3) M28 h
          · have h := hf q
            refine am_Wrun 1 (ps := []) (pc' := 432) (lv' := [(0, .inr (.inl (some 999))), (1, .inr (.inl (some 0))), (2, .inr (.inl (some 69))), (3, .inr (.inl (some 80))), (4, .inl (v4))]) (st' := [.inl (0)]) (M' := M28) rfl trivial ?_
            exact am_Wretz rfl rfl (Or.inl rfl) h
        | 5, _, e2 =>
          have h := j5 e2
          refine ⟨_, 433, rfl, rfl, ?_⟩
          obtain ⟨c0_0, h⟩ := h
          refine am_Wrun 7 (ps := [0 ≤ (v4 + 1) ∧ (v4 + 1) < scr.1]) (pc' := 441) (lv' := [(0, .inr (.inl (some 999))), (1, .inr (.inl (some 0))), (2, .inr (.inl (some 69))), (3, .inr (.inl (some 80))), (4, .inl (v4))]) (st' := [.inr (.inl (some 80)), .inl (scr.2 (v4 + 1)), .inr (.inl (some 0))]) (M' := M) rfl ⟨c0_0, trivial⟩ ?_
          obtain ⟨hcap, h⟩ := h
          refine am_WcallS (y := 203) (n := 3) (f := 444) (co := 1) (as := [.inr (.inl (some 0)), .inl (scr.2 (v4 + 1)), .inr (.inl (some 80))]) (st' := []) rfl rfl rfl rfl rfl rfl rfl rfl rfl hcap rfl (am_CC_le (Nat.le_of_ble_eq_true rfl) (tm_L_thin h)) (fun r M30 q => ?_) (fun _ _ q => q.elim)
          obtain ⟨x29, rfl, h⟩ := q
          obtain ⟨c0_0, h⟩ := h
          refine am_Wrun 7 (ps := [0 ≤ (v4 + 1) ∧ (v4 + 1) < scr.1]) (pc' := 453) (lv' := [(5, .inl (x29)), (0, .inr (.inl (some 999))), (1, .inr (.inl (some 0))), (2, .inr (.inl (some 69))), (3, .inr (.inl (some 80))), (4, .inl (v4))]) (st' := [.inl (scr.2 (v4 + 1)), .inr (.inl (some 69))]) (M' := M30) rfl ⟨c0_0, trivial⟩ ?_
          obtain ⟨hbc, h⟩ := h
          refine am_WcallV (y := 143) (n := 2) (a := 69) (f := 456) (as := [.inl (scr.2 (v4 + 1))]) (st' := []) rfl rfl rfl rfl rfl rfl rfl rfl rfl rfl hbc rfl (am_CC_le (Nat.le_of_ble_eq_true rfl) (tm_X6_thin h)) (fun r M32 q => ?_) (fun _ _ q => q.elim)
          obtain ⟨x31, rfl, h⟩ := q
          refine am_Wrun 2 (ps := []) (pc' := 459) (lv' := [(6, .inl (x31)), (5, .inl (x29)), (0, .inr (.inl (some 999))), (1, .inr (.inl (some 0))), (2, .inr (.inl (some 69))), (3, .inr (.inl (some 80))), (4, .inl (v4))]) (st' := [.inr (.inl (some 69))]) (M' := M32) rfl trivial ?_
          obtain ⟨hbc, h⟩ := h
          refine am_WcallV (y := 109) (n := 1) (a := 69) (f := 462) (as := []) (st' := []) rfl rfl rfl rfl rfl rfl rfl rfl rfl rfl hbc rfl (am_CC_le (Nat.le_of_ble_eq_true rfl) (tm_X6_thrown h)) (fun r M34 q => ?_) (fun _ _ q => q.elim)
          obtain ⟨x33, rfl, h⟩ := q
          refine am_Wrun 1 (ps := []) (pc' := 464) (lv' := [(6, .inl (x31)), (5, .inl (x29)), (0, .inr (.inl (some 999))), (1, .inr (.inl (some 0))), (2, .inr (.inl (some 69))), (3, .inr (.inl (some 80))), (4, .inl (v4))]) (st' := [.inl (x29), .inl (x33)]) (M' := M34) rfl trivial ?_
          obtain ⟨b0, b1, ht, hf⟩ := h
          refine am_Wbr (P := [am_rg x33, am_rg x29]) (c := x33 = x29) (t := 469) (f := 467) (st' := []) rfl rfl ⟨b0, b1, trivial⟩ rfl (fun q => ?_) (fun q => ?_)
          · have h := ht q
            refine am_Wrun 1 (ps := []) (pc' := 471) (lv' := [(6, .inl (x31)), (5, .inl (x29)), (0, .inr (.inl (some 999))), (1, .inr (.inl (some 0))), (2, .inr (.inl (some 69))), (3, .inr (.inl (some 80))), (4, .inl (v4))]) (st' := [.inl (x29)]) (M' := M34) rfl trivial ?_
            obtain ⟨b0, ht, hf⟩ := h
            refine am_Wbr (P := [am_rg x29]) (c := ¬ x29 = 0) (t := 486) (f := 474) (st' := []) rfl rfl ⟨b0, trivial⟩ rfl (fun q => ?_) (fun q => ?_)
            · have h := ht q
              refine am_Wrun 3 (ps := []) (pc' := 23) (lv' := [(4, .inl (v4 + 3)), (6, .inl (x31)), (5, .inl (x29)), (0, .inr (.inl (some 999))), (1, .inr (.inl (some 0))), (2, .inr (.inl (some 69))), (3, .inr (.inl (some 80)))]) (st' := []) (M' := M34) rfl trivial ?_
              refine am_W_sub [3, 4, 5, 6, 0] rfl ?_
              exact tw_L_law_23 hX n (b + 1) (v4 + 3) M34 h
            · have h := hf q
              obtain ⟨c1_0, c2_0, h⟩ := h
              refine am_Wrun 6 (ps := [0 ≤ (0 : Int) ∧ (0 : Int) < 1, am_rg x31, (am_rl (M34 80 0) ∧ am_rl x31) ∨ (M34 80 0) = x31]) (pc' := 481) (lv' := [(6, .inl (x31)), (5, .inl (x29)), (0, .inr (.inl (some 999))), (1, .inr (.inl (some 0))), (2, .inr (.inl (some 69))), (3, .inr (.inl (some 80))), (4, .inl (v4))]) (st' := [.inl (am_lci (M34 80 0) x31)]) (M' := M34) rfl ⟨⟨by decide, by decide⟩, c1_0, c2_0, trivial⟩ ?_
              obtain ⟨b0, ht, hf⟩ := h
              refine am_Wbr (P := [am_rg (am_lci (M34 80 0) x31)]) (c := (am_lci (M34 80 0) x31) = 0) (t := 486) (f := 484) (st' := []) rfl rfl ⟨b0, trivial⟩ rfl (fun q => ?_) (fun q => ?_)
              · have h := ht q
                refine am_Wrun 3 (ps := []) (pc' := 23) (lv' := [(4, .inl (v4 + 3)), (6, .inl (x31)), (5, .inl (x29)), (0, .inr (.inl (some 999))), (1, .inr (.inl (some 0))), (2, .inr (.inl (some 69))), (3, .inr (.inl (some 80)))]) (st' := []) (M' := M34) rfl trivial ?_
                refine am_W_sub [3, 4, 5, 6, 0] rfl ?_
                exact tw_L_law_23 hX n (b + 1) (v4 + 3) M34 h
              · have h := hf q
                refine am_Wrun 1 (ps := []) (pc' := 485) (lv' := [(6, .inl (x31)), (5, .inl (x29)), (0, .inr (.inl (some 999))), (1, .inr (.inl (some 0))), (2, .inr (.inl (some 69))), (3, .inr (.inl (some 80))), (4, .inl (v4))]) (st' := [.inl (0)]) (M' := M34) rfl trivial ?_
                exact am_Wretz rfl rfl (Or.inl rfl) h
          · have h := hf q
            refine am_Wrun 1 (ps := []) (pc' := 468) (lv' := [(6, .inl (x31)), (5, .inl (x29)), (0, .inr (.inl (some 999))), (1, .inr (.inl (some 0))), (2, .inr (.inl (some 69))), (3, .inr (.inl (some 80))), (4, .inl (v4))]) (st' := [.inl (0)]) (M' := M34) rfl trivial ?_
            exact am_Wretz rfl rfl (Or.inl rfl) h
        | 6, _, e2 =>
          have h := j6 e2
          refine ⟨_, 489, rfl, rfl, ?_⟩
          obtain ⟨c0_0, h⟩ := h
          refine am_Wrun 7 (ps := [0 ≤ (v4 + 1) ∧ (v4 + 1) < scr.1]) (pc' := 497) (lv' := [(0, .inr (.inl (some 999))), (1, .inr (.inl (some 0))), (2, .inr (.inl (some 69))), (3, .inr (.inl (some 80))), (4, .inl (v4))]) (st' := [.inr (.inl (some 80)), .inl (scr.2 (v4 + 1)), .inr (.inl (some 0))]) (M' := M) rfl ⟨c0_0, trivial⟩ ?_
          obtain ⟨hcap, h⟩ := h
          refine am_WcallS (y := 204) (n := 3) (f := 500) (co := 1) (as := [.inr (.inl (some 0)), .inl (scr.2 (v4 + 1)), .inr (.inl (some 80))]) (st' := []) rfl rfl rfl rfl rfl rfl rfl rfl rfl hcap rfl (am_CC_le (Nat.le_of_ble_eq_true rfl) (tm_L_tear h)) (fun r M36 q => ?_) (fun _ _ q => q.elim)
          obtain ⟨x35, rfl, h⟩ := q
          obtain ⟨c0_0, h⟩ := h
          refine am_Wrun 7 (ps := [0 ≤ (v4 + 1) ∧ (v4 + 1) < scr.1]) (pc' := 509) (lv' := [(5, .inl (x35)), (0, .inr (.inl (some 999))), (1, .inr (.inl (some 0))), (2, .inr (.inl (some 69))), (3, .inr (.inl (some 80))), (4, .inl (v4))]) (st' := [.inl (scr.2 (v4 + 1)), .inr (.inl (some 69))]) (M' := M36) rfl ⟨c0_0, trivial⟩ ?_
          obtain ⟨hbc, h⟩ := h
          refine am_WcallV (y := 150) (n := 2) (a := 69) (f := 512) (as := [.inl (scr.2 (v4 + 1))]) (st' := []) rfl rfl rfl rfl rfl rfl rfl rfl rfl rfl hbc rfl (am_CC_le (Nat.le_of_ble_eq_true rfl) (tm_X6_tear h)) (fun r M38 q => ?_) (fun _ _ q => q.elim)
          obtain ⟨x37, rfl, h⟩ := q
          refine am_Wrun 2 (ps := []) (pc' := 515) (lv' := [(6, .inl (x37)), (5, .inl (x35)), (0, .inr (.inl (some 999))), (1, .inr (.inl (some 0))), (2, .inr (.inl (some 69))), (3, .inr (.inl (some 80))), (4, .inl (v4))]) (st' := [.inr (.inl (some 69))]) (M' := M38) rfl trivial ?_
          obtain ⟨hbc, h⟩ := h
          refine am_WcallV (y := 109) (n := 1) (a := 69) (f := 518) (as := []) (st' := []) rfl rfl rfl rfl rfl rfl rfl rfl rfl rfl hbc rfl (am_CC_le (Nat.le_of_ble_eq_true rfl) (tm_X6_thrown h)) (fun r M40 q => ?_) (fun _ _ q => q.elim)
          obtain ⟨x39, rfl, h⟩ := q
          refine am_Wrun 1 (ps := []) (pc' := 520) (lv' := [(6, .inl (x37)), (5, .inl (x35)), (0, .inr (.inl (some 999))), (1, .inr (.inl (some 0))), (2, .inr (.inl (some 69))), (3, .inr (.inl (some 80))), (4, .inl (v4))]) (st' := [.inl (x35), .inl (x39)]) (M' := M40) rfl trivial ?_
          obtain ⟨b0, b1, ht, hf⟩ := h
          refine am_Wbr (P := [am_rg x39, am_rg x35]) (c := x39 = x35) (t := 525) (f := 523) (st' := []) rfl rfl ⟨b0, b1, trivial⟩ rfl (fun q => ?_) (fun q => ?_)
          · have h := ht q
            refine am_Wrun 1 (ps := []) (pc' := 527) (lv' := [(6, .inl (x37)), (5, .inl (x35)), (0, .inr (.inl (some 999))), (1, .inr (.inl (some 0))), (2, .inr (.inl (some 69))), (3, .inr (.inl (some 80))), (4, .inl (v4))]) (st' := [.inl (x35)]) (M' := M40) rfl trivial ?_
            obtain ⟨b0, ht, hf⟩ := h
            refine am_Wbr (P := [am_rg x35]) (c := ¬ x35 = 0) (t := 542) (f := 530) (st' := []) rfl rfl ⟨b0, trivial⟩ rfl (fun q => ?_) (fun q => ?_)
            · have h := ht q
              refine am_Wrun 3 (ps := []) (pc' := 23) (lv' := [(4, .inl (v4 + 3)), (6, .inl (x37)), (5, .inl (x35)), (0, .inr (.inl (some 999))), (1, .inr (.inl (some 0))), (2, .inr (.inl (some 69))), (3, .inr (.inl (some 80)))]) (st' := []) (M' := M40) rfl trivial ?_
              refine am_W_sub [3, 4, 5, 6, 0] rfl ?_
              exact tw_L_law_23 hX n (b + 1) (v4 + 3) M40 h
            · have h := hf q
              obtain ⟨c1_0, c2_0, h⟩ := h
              refine am_Wrun 6 (ps := [0 ≤ (0 : Int) ∧ (0 : Int) < 1, am_rg x37, (am_rl (M40 80 0) ∧ am_rl x37) ∨ (M40 80 0) = x37]) (pc' := 537) (lv' := [(6, .inl (x37)), (5, .inl (x35)), (0, .inr (.inl (some 999))), (1, .inr (.inl (some 0))), (2, .inr (.inl (some 69))), (3, .inr (.inl (some 80))), (4, .inl (v4))]) (st' := [.inl (am_lci (M40 80 0) x37)]) (M' := M40) rfl ⟨⟨by decide, by decide⟩, c1_0, c2_0, trivial⟩ ?_
              obtain ⟨b0, ht, hf⟩ := h
              refine am_Wbr (P := [am_rg (am_lci (M40 80 0) x37)]) (c := (am_lci (M40 80 0) x37) = 0) (t := 542) (f := 540) (st' := []) rfl rfl ⟨b0, trivial⟩ rfl (fun q => ?_) (fun q => ?_)
              · have h := ht q
                refine am_Wrun 3 (ps := []) (pc' := 23) (lv' := [(4, .inl (v4 + 3)), (6, .inl (x37)), (5, .inl (x35)), (0, .inr (.inl (some 999))), (1, .inr (.inl (some 0))), (2, .inr (.inl (some 69))), (3, .inr (.inl (some 80)))]) (st' := []) (M' := M40) rfl trivial ?_
                refine am_W_sub [3, 4, 5, 6, 0] rfl ?_
                exact tw_L_law_23 hX n (b + 1) (v4 + 3) M40 h
              · have h := hf q
                refine am_Wrun 1 (ps := []) (pc' := 541) (lv' := [(6, .inl (x37)), (5, .inl (x35)), (0, .inr (.inl (some 999))), (1, .inr (.inl (some 0))), (2, .inr (.inl (some 69))), (3, .inr (.inl (some 80))), (4, .inl (v4))]) (st' := [.inl (0)]) (M' := M40) rfl trivial ?_
                exact am_Wretz rfl rfl (Or.inl rfl) h
          · have h := hf q
            refine am_Wrun 1 (ps := []) (pc' := 524) (lv' := [(6, .inl (x37)), (5, .inl (x35)), (0, .inr (.inl (some 999))), (1, .inr (.inl (some 0))), (2, .inr (.inl (some 69))), (3, .inr (.inl (some 80))), (4, .inl (v4))]) (st' := [.inl (0)]) (M' := M40) rfl trivial ?_
            exact am_Wretz rfl rfl (Or.inl rfl) h
        | 7, _, e2 =>
          have h := j7 e2
          refine ⟨_, 545, rfl, rfl, ?_⟩
          obtain ⟨c0_0, c1_0, h⟩ := h
          refine am_Wrun 12 (ps := [0 ≤ (v4 + 1) ∧ (v4 + 1) < scr.1, 0 ≤ (v4 + 2) ∧ (v4 + 2) < scr.1]) (pc' := 559) (lv' := [(0, .inr (.inl (some 999))), (1, .inr (.inl (some 0))), (2, .inr (.inl (some 69))), (3, .inr (.inl (some 80))), (4, .inl (v4))]) (st' := [.inr (.inl (some 80)), .inl (scr.2 (v4 + 2)), .inl (scr.2 (v4 + 1)), .inr (.inl (some 0))]) (M' := M) rfl ⟨c0_0, c1_0, trivial⟩ ?_
          obtain ⟨hcap, h⟩ := h
          refine am_WcallS (y := 205) (n := 4) (f := 562) (co := 1) (as := [.inr (.inl (some 0)), .inl (scr.2 (v4 + 1)), .inl (scr.2 (v4 + 2)), .inr (.inl (some 80))]) (st' := []) rfl rfl rfl rfl rfl rfl rfl rfl rfl hcap rfl (am_CC_le (Nat.le_of_ble_eq_true rfl) (tm_L_set h)) (fun r M42 q => ?_) (fun _ _ q => q.elim)
          obtain ⟨x41, rfl, h⟩ := q
          obtain ⟨c0_0, c1_0, h⟩ := h
          refine am_Wrun 12 (ps := [0 ≤ (v4 + 1) ∧ (v4 + 1) < scr.1, 0 ≤ (v4 + 2) ∧ (v4 + 2) < scr.1]) (pc' := 577) (lv' := [(5, .inl (x41)), (0, .inr (.inl (some 999))), (1, .inr (.inl (some 0))), (2, .inr (.inl (some 69))), (3, .inr (.inl (some 80))), (4, .inl (v4))]) (st' := [.inl (scr.2 (v4 + 2)), .inl (scr.2 (v4 + 1)), .inr (.inl (some 69))]) (M' := M42) rfl ⟨c0_0, c1_0, trivial⟩ ?_
          obtain ⟨hbc, h⟩ := h
          refine am_WcallV (y := 153) (n := 3) (a := 69) (f := 580) (as := [.inl (scr.2 (v4 + 1)), .inl (scr.2 (v4 + 2))]) (st' := []) rfl rfl rfl rfl rfl rfl rfl rfl rfl rfl hbc rfl (am_CC_le (Nat.le_of_ble_eq_true rfl) (tm_X6_set h)) (fun r M44 q => ?_) (fun _ _ q => q.elim)
          obtain ⟨x43, rfl, h⟩ := q
          refine am_Wrun 2 (ps := []) (pc' := 583) (lv' := [(6, .inl (x43)), (5, .inl (x41)), (0, .inr (.inl (some 999))), (1, .inr (.inl (some 0))), (2, .inr (.inl (some 69))), (3, .inr (.inl (some 80))), (4, .inl (v4))]) (st' := [.inr (.inl (some 69))]) (M' := M44) rfl trivial ?_
          obtain ⟨hbc, h⟩ := h
          refine am_WcallV (y := 109) (n := 1) (a := 69) (f := 586) (as := []) (st' := []) rfl rfl rfl rfl rfl rfl rfl rfl rfl rfl hbc rfl (am_CC_le (Nat.le_of_ble_eq_true rfl) (tm_X6_thrown h)) (fun r M46 q => ?_) (fun _ _ q => q.elim)
          obtain ⟨x45, rfl, h⟩ := q
          refine am_Wrun 1 (ps := []) (pc' := 588) (lv' := [(6, .inl (x43)), (5, .inl (x41)), (0, .inr (.inl (some 999))), (1, .inr (.inl (some 0))), (2, .inr (.inl (some 69))), (3, .inr (.inl (some 80))), (4, .inl (v4))]) (st' := [.inl (x41), .inl (x45)]) (M' := M46) rfl trivial ?_
          obtain ⟨b0, b1, ht, hf⟩ := h
          refine am_Wbr (P := [am_rg x45, am_rg x41]) (c := x45 = x41) (t := 593) (f := 591) (st' := []) rfl rfl ⟨b0, b1, trivial⟩ rfl (fun q => ?_) (fun q => ?_)
          · have h := ht q
            refine am_Wrun 1 (ps := []) (pc' := 595) (lv' := [(6, .inl (x43)), (5, .inl (x41)), (0, .inr (.inl (some 999))), (1, .inr (.inl (some 0))), (2, .inr (.inl (some 69))), (3, .inr (.inl (some 80))), (4, .inl (v4))]) (st' := [.inl (x41)]) (M' := M46) rfl trivial ?_
            obtain ⟨b0, ht, hf⟩ := h
            refine am_Wbr (P := [am_rg x41]) (c := ¬ x41 = 0) (t := 610) (f := 598) (st' := []) rfl rfl ⟨b0, trivial⟩ rfl (fun q => ?_) (fun q => ?_)
            · have h := ht q
              refine am_Wrun 3 (ps := []) (pc' := 23) (lv' := [(4, .inl (v4 + 3)), (6, .inl (x43)), (5, .inl (x41)), (0, .inr (.inl (some 999))), (1, .inr (.inl (some 0))), (2, .inr (.inl (some 69))), (3, .inr (.inl (some 80)))]) (st' := []) (M' := M46) rfl trivial ?_
              refine am_W_sub [3, 4, 5, 6, 0] rfl ?_
              exact tw_L_law_23 hX n (b + 1) (v4 + 3) M46 h
            · have h := hf q
              obtain ⟨c1_0, c2_0, h⟩ := h
              refine am_Wrun 6 (ps := [0 ≤ (0 : Int) ∧ (0 : Int) < 1, am_rg x43, (am_rl (M46 80 0) ∧ am_rl x43) ∨ (M46 80 0) = x43]) (pc' := 605) (lv' := [(6, .inl (x43)), (5, .inl (x41)), (0, .inr (.inl (some 999))), (1, .inr (.inl (some 0))), (2, .inr (.inl (some 69))), (3, .inr (.inl (some 80))), (4, .inl (v4))]) (st' := [.inl (am_lci (M46 80 0) x43)]) (M' := M46) rfl ⟨⟨by decide, by decide⟩, c1_0, c2_0, trivial⟩ ?_
              obtain ⟨b0, ht, hf⟩ := h
              refine am_Wbr (P := [am_rg (am_lci (M46 80 0) x43)]) (c := (am_lci (M46 80 0) x43) = 0) (t := 610) (f := 608) (st' := []) rfl rfl ⟨b0, trivial⟩ rfl (fun q => ?_) (fun q => ?_)
              · have h := ht q
                refine am_Wrun 3 (ps := []) (pc' := 23) (lv' := [(4, .inl (v4 + 3)), (6, .inl (x43)), (5, .inl (x41)), (0, .inr (.inl (some 999))), (1, .inr (.inl (some 0))), (2, .inr (.inl (some 69))), (3, .inr (.inl (some 80)))]) (st' := []) (M' := M46) rfl trivial ?_
                refine am_W_sub [3, 4, 5, 6, 0] rfl ?_
                exact tw_L_law_23 hX n (b + 1) (v4 + 3) M46 h
              · have h := hf q
                refine am_Wrun 1 (ps := []) (pc' := 609) (lv' := [(6, .inl (x43)), (5, .inl (x41)), (0, .inr (.inl (some 999))), (1, .inr (.inl (some 0))), (2, .inr (.inl (some 69))), (3, .inr (.inl (some 80))), (4, .inl (v4))]) (st' := [.inl (0)]) (M' := M46) rfl trivial ?_
                exact am_Wretz rfl rfl (Or.inl rfl) h
          · have h := hf q
            refine am_Wrun 1 (ps := []) (pc' := 592) (lv' := [(6, .inl (x43)), (5, .inl (x41)), (0, .inr (.inl (some 999))), (1, .inr (.inl (some 0))), (2, .inr (.inl (some 69))), (3, .inr (.inl (some 80))), (4, .inl (v4))]) (st' := [.inl (0)]) (M' := M46) rfl trivial ?_
            exact am_Wretz rfl rfl (Or.inl rfl) h
        | 8, _, e2 =>
          have h := j8 e2
          refine ⟨_, 613, rfl, rfl, ?_⟩
          obtain ⟨c0_0, c1_0, h⟩ := h
          refine am_Wrun 12 (ps := [0 ≤ (v4 + 1) ∧ (v4 + 1) < scr.1, 0 ≤ (v4 + 2) ∧ (v4 + 2) < scr.1]) (pc' := 627) (lv' := [(0, .inr (.inl (some 999))), (1, .inr (.inl (some 0))), (2, .inr (.inl (some 69))), (3, .inr (.inl (some 80))), (4, .inl (v4))]) (st' := [.inr (.inl (some 80)), .inl (scr.2 (v4 + 2)), .inl (scr.2 (v4 + 1)), .inr (.inl (some 0))]) (M' := M) rfl ⟨c0_0, c1_0, trivial⟩ ?_
          obtain ⟨hcap, h⟩ := h
          refine am_WcallS (y := 206) (n := 4) (f := 630) (co := 1) (as := [.inr (.inl (some 0)), .inl (scr.2 (v4 + 1)), .inl (scr.2 (v4 + 2)), .inr (.inl (some 80))]) (st' := []) rfl rfl rfl rfl rfl rfl rfl rfl rfl hcap rfl (am_CC_le (Nat.le_of_ble_eq_true rfl) (tm_L_note h)) (fun r M48 q => ?_) (fun _ _ q => q.elim)
          obtain ⟨x47, rfl, h⟩ := q
          obtain ⟨c0_0, c1_0, h⟩ := h
          refine am_Wrun 12 (ps := [0 ≤ (v4 + 1) ∧ (v4 + 1) < scr.1, 0 ≤ (v4 + 2) ∧ (v4 + 2) < scr.1]) (pc' := 645) (lv' := [(5, .inl (x47)), (0, .inr (.inl (some 999))), (1, .inr (.inl (some 0))), (2, .inr (.inl (some 69))), (3, .inr (.inl (some 80))), (4, .inl (v4))]) (st' := [.inl (scr.2 (v4 + 2)), .inl (scr.2 (v4 + 1)), .inr (.inl (some 69))]) (M' := M48) rfl ⟨c0_0, c1_0, trivial⟩ ?_
          obtain ⟨hbc, h⟩ := h
          refine am_WcallV (y := 154) (n := 3) (a := 69) (f := 648) (as := [.inl (scr.2 (v4 + 1)), .inl (scr.2 (v4 + 2))]) (st' := []) rfl rfl rfl rfl rfl rfl rfl rfl rfl rfl hbc rfl (am_CC_le (Nat.le_of_ble_eq_true rfl) (tm_X6_note h)) (fun r M50 q => ?_) (fun _ _ q => q.elim)
          obtain ⟨x49, rfl, h⟩ := q
          refine am_Wrun 2 (ps := []) (pc' := 651) (lv' := [(6, .inl (x49)), (5, .inl (x47)), (0, .inr (.inl (some 999))), (1, .inr (.inl (some 0))), (2, .inr (.inl (some 69))), (3, .inr (.inl (some 80))), (4, .inl (v4))]) (st' := [.inr (.inl (some 69))]) (M' := M50) rfl trivial ?_
          obtain ⟨hbc, h⟩ := h
          refine am_WcallV (y := 109) (n := 1) (a := 69) (f := 654) (as := []) (st' := []) rfl rfl rfl rfl rfl rfl rfl rfl rfl rfl hbc rfl (am_CC_le (Nat.le_of_ble_eq_true rfl) (tm_X6_thrown h)) (fun r M52 q => ?_) (fun _ _ q => q.elim)
          obtain ⟨x51, rfl, h⟩ := q
          refine am_Wrun 1 (ps := []) (pc' := 656) (lv' := [(6, .inl (x49)), (5, .inl (x47)), (0, .inr (.inl (some 999))), (1, .inr (.inl (some 0))), (2, .inr (.inl (some 69))), (3, .inr (.inl (some 80))), (4, .inl (v4))]) (st' := [.inl (x47), .inl (x51)]) (M' := M52) rfl trivial ?_
          obtain ⟨b0, b1, ht, hf⟩ := h
          refine am_Wbr (P := [am_rg x51, am_rg x47]) (c := x51 = x47) (t := 661) (f := 659) (st' := []) rfl rfl ⟨b0, b1, trivial⟩ rfl (fun q => ?_) (fun q => ?_)
          · have h := ht q
            refine am_Wrun 1 (ps := []) (pc' := 663) (lv' := [(6, .inl (x49)), (5, .inl (x47)), (0, .inr (.inl (some 999))), (1, .inr (.inl (some 0))), (2, .inr (.inl (some 69))), (3, .inr (.inl (some 80))), (4, .inl (v4))]) (st' := [.inl (x47)]) (M' := M52) rfl trivial ?_
            obtain ⟨b0, ht, hf⟩ := h
            refine am_Wbr (P := [am_rg x47]) (c := ¬ x47 = 0) (t := 678) (f := 666) (st' := []) rfl rfl ⟨b0, trivial⟩ rfl (fun q => ?_) (fun q => ?_)
            · have h := ht q
              refine am_Wrun 3 (ps := []) (pc' := 23) (lv' := [(4, .inl (v4 + 3)), (6, .inl (x49)), (5, .inl (x47)), (0, .inr (.inl (some 999))), (1, .inr (.inl (some 0))), (2, .inr (.inl (some 69))), (3, .inr (.inl (some 80)))]) (st' := []) (M' := M52) rfl trivial ?_
              refine am_W_sub [3, 4, 5, 6, 0] rfl ?_
              exact tw_L_law_23 hX n (b + 1) (v4 + 3) M52 h
            · have h := hf q
              obtain ⟨c1_0, c2_0, h⟩ := h
              refine am_Wrun 6 (ps := [0 ≤ (0 : Int) ∧ (0 : Int) < 1, am_rg x49, (am_rl (M52 80 0) ∧ am_rl x49) ∨ (M52 80 0) = x49]) (pc' := 673) (lv' := [(6, .inl (x49)), (5, .inl (x47)), (0, .inr (.inl (some 999))), (1, .inr (.inl (some 0))), (2, .inr (.inl (some 69))), (3, .inr (.inl (some 80))), (4, .inl (v4))]) (st' := [.inl (am_lci (M52 80 0) x49)]) (M' := M52) rfl ⟨⟨by decide, by decide⟩, c1_0, c2_0, trivial⟩ ?_
              obtain ⟨b0, ht, hf⟩ := h
              refine am_Wbr (P := [am_rg (am_lci (M52 80 0) x49)]) (c := (am_lci (M52 80 0) x49) = 0) (t := 678) (f := 676) (st' := []) rfl rfl ⟨b0, trivial⟩ rfl (fun q => ?_) (fun q => ?_)
              · have h := ht q
                refine am_Wrun 3 (ps := []) (pc' := 23) (lv' := [(4, .inl (v4 + 3)), (6, .inl (x49)), (5, .inl (x47)), (0, .inr (.inl (some 999))), (1, .inr (.inl (some 0))), (2, .inr (.inl (some 69))), (3, .inr (.inl (some 80)))]) (st' := []) (M' := M52) rfl trivial ?_
                refine am_W_sub [3, 4, 5, 6, 0] rfl ?_
                exact tw_L_law_23 hX n (b + 1) (v4 + 3) M52 h
              · have h := hf q
                refine am_Wrun 1 (ps := []) (pc' := 677) (lv' := [(6, .inl (x49)), (5, .inl (x47)), (0, .inr (.inl (some 999))), (1, .inr (.inl (some 0))), (2, .inr (.inl (some 69))), (3, .inr (.inl (some 80))), (4, .inl (v4))]) (st' := [.inl (0)]) (M' := M52) rfl trivial ?_
                exact am_Wretz rfl rfl (Or.inl rfl) h
          · have h := hf q
            refine am_Wrun 1 (ps := []) (pc' := 660) (lv' := [(6, .inl (x49)), (5, .inl (x47)), (0, .inr (.inl (some 999))), (1, .inr (.inl (some 0))), (2, .inr (.inl (some 69))), (3, .inr (.inl (some 80))), (4, .inl (v4))]) (st' := [.inl (0)]) (M' := M52) rfl trivial ?_
            exact am_Wretz rfl rfl (Or.inl rfl) h
        | 9, _, e2 =>
          have h := j9 e2
          refine ⟨_, 681, rfl, rfl, ?_⟩
          refine am_Wrun 1 (ps := []) (pc' := 682) (lv' := [(0, .inr (.inl (some 999))), (1, .inr (.inl (some 0))), (2, .inr (.inl (some 69))), (3, .inr (.inl (some 80))), (4, .inl (v4))]) (st' := [.inr (.inl (some 0))]) (M' := M) rfl trivial ?_
          obtain ⟨hbc, h⟩ := h
          refine am_WcallV (y := 17) (n := 1) (a := 0) (f := 685) (as := []) (st' := []) rfl rfl rfl rfl rfl rfl rfl rfl rfl rfl hbc rfl (am_CC_le (Nat.le_of_ble_eq_true rfl) (tm_X5_strike h)) (fun r M54 q => ?_) (fun _ _ q => q.elim)
          obtain ⟨x53, rfl, h⟩ := q
          refine am_Wrun 1 (ps := []) (pc' := 686) (lv' := [(0, .inr (.inl (some 999))), (1, .inr (.inl (some 0))), (2, .inr (.inl (some 69))), (3, .inr (.inl (some 80))), (4, .inl (v4))]) (st' := [.inr (.inl (some 69)), .inl (x53)]) (M' := M54) rfl trivial ?_
          obtain ⟨hbc, h⟩ := h
          refine am_WcallV (y := 155) (n := 1) (a := 69) (f := 689) (as := []) (st' := [.inl (x53)]) rfl rfl rfl rfl rfl rfl rfl rfl rfl rfl hbc rfl (am_CC_le (Nat.le_of_ble_eq_true rfl) (tm_X6_strike h)) (fun r M56 q => ?_) (fun _ _ q => q.elim)
          obtain ⟨x55, rfl, h⟩ := q
          obtain ⟨b0, b1, ht, hf⟩ := h
          refine am_Wbr (P := [am_rg x53, am_rg x55]) (c := x53 = x55) (t := 1705) (f := 692) (st' := []) rfl rfl ⟨b0, b1, trivial⟩ rfl (fun q => ?_) (fun q => ?_)
          · have h := ht q
            refine am_Wrun 2 (ps := []) (pc' := 23) (lv' := [(4, .inl (v4 + 3)), (0, .inr (.inl (some 999))), (1, .inr (.inl (some 0))), (2, .inr (.inl (some 69))), (3, .inr (.inl (some 80)))]) (st' := []) (M' := M56) rfl trivial ?_
            refine am_W_sub [1, 2, 3, 4, 0] rfl ?_
            exact tw_L_law_23 hX n b (v4 + 3) M56 h
          · have h := hf q
            refine am_Wrun 1 (ps := []) (pc' := 693) (lv' := [(0, .inr (.inl (some 999))), (1, .inr (.inl (some 0))), (2, .inr (.inl (some 69))), (3, .inr (.inl (some 80))), (4, .inl (v4))]) (st' := [.inl (0)]) (M' := M56) rfl trivial ?_
            exact am_Wretz rfl rfl (Or.inl rfl) h
        | 10, _, e2 =>
          have h := j10 e2
          refine ⟨_, 694, rfl, rfl, ?_⟩
          obtain ⟨c0_0, h⟩ := h
          refine am_Wrun 7 (ps := [0 ≤ (v4 + 1) ∧ (v4 + 1) < scr.1]) (pc' := 702) (lv' := [(0, .inr (.inl (some 999))), (1, .inr (.inl (some 0))), (2, .inr (.inl (some 69))), (3, .inr (.inl (some 80))), (4, .inl (v4))]) (st' := [.inr (.inl (some 80)), .inl (scr.2 (v4 + 1)), .inr (.inl (some 0))]) (M' := M) rfl ⟨c0_0, trivial⟩ ?_
          obtain ⟨hcap, h⟩ := h
          refine am_WcallS (y := 207) (n := 3) (f := 705) (co := 1) (as := [.inr (.inl (some 0)), .inl (scr.2 (v4 + 1)), .inr (.inl (some 80))]) (st' := []) rfl rfl rfl rfl rfl rfl rfl rfl rfl hcap rfl (am_CC_le (Nat.le_of_ble_eq_true rfl) (tm_L_append h)) (fun r M58 q => ?_) (fun _ _ q => q.elim)
          obtain ⟨x57, rfl, h⟩ := q
          obtain ⟨c0_0, h⟩ := h
          refine am_Wrun 7 (ps := [0 ≤ (v4 + 1) ∧ (v4 + 1) < scr.1]) (pc' := 714) (lv' := [(5, .inl (x57)), (0, .inr (.inl (some 999))), (1, .inr (.inl (some 0))), (2, .inr (.inl (some 69))), (3, .inr (.inl (some 80))), (4, .inl (v4))]) (st' := [.inl (scr.2 (v4 + 1)), .inr (.inl (some 69))]) (M' := M58) rfl ⟨c0_0, trivial⟩ ?_
          obtain ⟨hbc, h⟩ := h
          refine am_WcallV (y := 157) (n := 2) (a := 69) (f := 717) (as := [.inl (scr.2 (v4 + 1))]) (st' := []) rfl rfl rfl rfl rfl rfl rfl rfl rfl rfl hbc rfl (am_CC_le (Nat.le_of_ble_eq_true rfl) (tm_X6_append h)) (fun r M60 q => ?_) (fun _ _ q => q.elim)
          obtain ⟨x59, rfl, h⟩ := q
          refine am_Wrun 2 (ps := []) (pc' := 720) (lv' := [(6, .inl (x59)), (5, .inl (x57)), (0, .inr (.inl (some 999))), (1, .inr (.inl (some 0))), (2, .inr (.inl (some 69))), (3, .inr (.inl (some 80))), (4, .inl (v4))]) (st' := [.inr (.inl (some 69))]) (M' := M60) rfl trivial ?_
          obtain ⟨hbc, h⟩ := h
          refine am_WcallV (y := 109) (n := 1) (a := 69) (f := 723) (as := []) (st' := []) rfl rfl rfl rfl rfl rfl rfl rfl rfl rfl hbc rfl (am_CC_le (Nat.le_of_ble_eq_true rfl) (tm_X6_thrown h)) (fun r M62 q => ?_) (fun _ _ q => q.elim)
          obtain ⟨x61, rfl, h⟩ := q
          refine am_Wrun 1 (ps := []) (pc' := 725) (lv' := [(6, .inl (x59)), (5, .inl (x57)), (0, .inr (.inl (some 999))), (1, .inr (.inl (some 0))), (2, .inr (.inl (some 69))), (3, .inr (.inl (some 80))), (4, .inl (v4))]) (st' := [.inl (x57), .inl (x61)]) (M' := M62) rfl trivial ?_
          obtain ⟨b0, b1, ht, hf⟩ := h
          refine am_Wbr (P := [am_rg x61, am_rg x57]) (c := x61 = x57) (t := 730) (f := 728) (st' := []) rfl rfl ⟨b0, b1, trivial⟩ rfl (fun q => ?_) (fun q => ?_)
          · have h := ht q
            refine am_Wrun 1 (ps := []) (pc' := 732) (lv' := [(6, .inl (x59)), (5, .inl (x57)), (0, .inr (.inl (some 999))), (1, .inr (.inl (some 0))), (2, .inr (.inl (some 69))), (3, .inr (.inl (some 80))), (4, .inl (v4))]) (st' := [.inl (x57)]) (M' := M62) rfl trivial ?_
            obtain ⟨b0, ht, hf⟩ := h
            refine am_Wbr (P := [am_rg x57]) (c := ¬ x57 = 0) (t := 747) (f := 735) (st' := []) rfl rfl ⟨b0, trivial⟩ rfl (fun q => ?_) (fun q => ?_)
            · have h := ht q
              refine am_Wrun 3 (ps := []) (pc' := 23) (lv' := [(4, .inl (v4 + 3)), (6, .inl (x59)), (5, .inl (x57)), (0, .inr (.inl (some 999))), (1, .inr (.inl (some 0))), (2, .inr (.inl (some 69))), (3, .inr (.inl (some 80)))]) (st' := []) (M' := M62) rfl trivial ?_
              refine am_W_sub [3, 4, 5, 6, 0] rfl ?_
              exact tw_L_law_23 hX n (b + 1) (v4 + 3) M62 h
            · have h := hf q
              obtain ⟨c1_0, c2_0, h⟩ := h
              refine am_Wrun 6 (ps := [0 ≤ (0 : Int) ∧ (0 : Int) < 1, am_rg x59, (am_rl (M62 80 0) ∧ am_rl x59) ∨ (M62 80 0) = x59]) (pc' := 742) (lv' := [(6, .inl (x59)), (5, .inl (x57)), (0, .inr (.inl (some 999))), (1, .inr (.inl (some 0))), (2, .inr (.inl (some 69))), (3, .inr (.inl (some 80))), (4, .inl (v4))]) (st' := [.inl (am_lci (M62 80 0) x59)]) (M' := M62) rfl ⟨⟨by decide, by decide⟩, c1_0, c2_0, trivial⟩ ?_
              obtain ⟨b0, ht, hf⟩ := h
              refine am_Wbr (P := [am_rg (am_lci (M62 80 0) x59)]) (c := (am_lci (M62 80 0) x59) = 0) (t := 747) (f := 745) (st' := []) rfl rfl ⟨b0, trivial⟩ rfl (fun q => ?_) (fun q => ?_)
              · have h := ht q
                refine am_Wrun 3 (ps := []) (pc' := 23) (lv' := [(4, .inl (v4 + 3)), (6, .inl (x59)), (5, .inl (x57)), (0, .inr (.inl (some 999))), (1, .inr (.inl (some 0))), (2, .inr (.inl (some 69))), (3, .inr (.inl (some 80)))]) (st' := []) (M' := M62) rfl trivial ?_
                refine am_W_sub [3, 4, 5, 6, 0] rfl ?_
                exact tw_L_law_23 hX n (b + 1) (v4 + 3) M62 h
              · have h := hf q
                refine am_Wrun 1 (ps := []) (pc' := 746) (lv' := [(6, .inl (x59)), (5, .inl (x57)), (0, .inr (.inl (some 999))), (1, .inr (.inl (some 0))), (2, .inr (.inl (some 69))), (3, .inr (.inl (some 80))), (4, .inl (v4))]) (st' := [.inl (0)]) (M' := M62) rfl trivial ?_
                exact am_Wretz rfl rfl (Or.inl rfl) h
          · have h := hf q
            refine am_Wrun 1 (ps := []) (pc' := 729) (lv' := [(6, .inl (x59)), (5, .inl (x57)), (0, .inr (.inl (some 999))), (1, .inr (.inl (some 0))), (2, .inr (.inl (some 69))), (3, .inr (.inl (some 80))), (4, .inl (v4))]) (st' := [.inl (0)]) (M' := M62) rfl trivial ?_
            exact am_Wretz rfl rfl (Or.inl rfl) h
        | 11, _, e2 =>
          have h := j11 e2
          refine ⟨_, 750, rfl, rfl, ?_⟩
          refine am_Wrun 1 (ps := []) (pc' := 751) (lv' := [(0, .inr (.inl (some 999))), (1, .inr (.inl (some 0))), (2, .inr (.inl (some 69))), (3, .inr (.inl (some 80))), (4, .inl (v4))]) (st' := [.inr (.inl (some 0))]) (M' := M) rfl trivial ?_
          obtain ⟨hbc, h⟩ := h
          refine am_WcallV (y := 23) (n := 1) (a := 0) (f := 754) (as := []) (st' := []) rfl rfl rfl rfl rfl rfl rfl rfl rfl rfl hbc rfl (am_CC_le (Nat.le_of_ble_eq_true rfl) (tm_X5_clearBuffer h)) (fun r M64 q => ?_) (fun _ _ q => q.elim)
          obtain ⟨x63, rfl, h⟩ := q
          refine am_Wrun 1 (ps := []) (pc' := 755) (lv' := [(0, .inr (.inl (some 999))), (1, .inr (.inl (some 0))), (2, .inr (.inl (some 69))), (3, .inr (.inl (some 80))), (4, .inl (v4))]) (st' := [.inr (.inl (some 69)), .inl (x63)]) (M' := M64) rfl trivial ?_
          obtain ⟨hbc, h⟩ := h
          refine am_WcallV (y := 158) (n := 1) (a := 69) (f := 758) (as := []) (st' := [.inl (x63)]) rfl rfl rfl rfl rfl rfl rfl rfl rfl rfl hbc rfl (am_CC_le (Nat.le_of_ble_eq_true rfl) (tm_X6_clearBuffer h)) (fun r M66 q => ?_) (fun _ _ q => q.elim)
          obtain ⟨x65, rfl, h⟩ := q
          obtain ⟨b0, b1, ht, hf⟩ := h
          refine am_Wbr (P := [am_rg x63, am_rg x65]) (c := x63 = x65) (t := 1705) (f := 761) (st' := []) rfl rfl ⟨b0, b1, trivial⟩ rfl (fun q => ?_) (fun q => ?_)
          · have h := ht q
            refine am_Wrun 2 (ps := []) (pc' := 23) (lv' := [(4, .inl (v4 + 3)), (0, .inr (.inl (some 999))), (1, .inr (.inl (some 0))), (2, .inr (.inl (some 69))), (3, .inr (.inl (some 80)))]) (st' := []) (M' := M66) rfl trivial ?_
            refine am_W_sub [1, 2, 3, 4, 0] rfl ?_
            exact tw_L_law_23 hX n b (v4 + 3) M66 h
          · have h := hf q
            refine am_Wrun 1 (ps := []) (pc' := 762) (lv' := [(0, .inr (.inl (some 999))), (1, .inr (.inl (some 0))), (2, .inr (.inl (some 69))), (3, .inr (.inl (some 80))), (4, .inl (v4))]) (st' := [.inl (0)]) (M' := M66) rfl trivial ?_
            exact am_Wretz rfl rfl (Or.inl rfl) h
        | 12, _, e2 =>
          have h := j12 e2
          refine ⟨_, 763, rfl, rfl, ?_⟩
          refine am_Wrun 1 (ps := []) (pc' := 764) (lv' := [(0, .inr (.inl (some 999))), (1, .inr (.inl (some 0))), (2, .inr (.inl (some 69))), (3, .inr (.inl (some 80))), (4, .inl (v4))]) (st' := [.inr (.inl (some 0))]) (M' := M) rfl trivial ?_
          obtain ⟨hbc, h⟩ := h
          refine am_WcallV (y := 24) (n := 1) (a := 0) (f := 767) (as := []) (st' := []) rfl rfl rfl rfl rfl rfl rfl rfl rfl rfl hbc rfl (am_CC_le (Nat.le_of_ble_eq_true rfl) (tm_X5_firstError h)) (fun r M68 q => ?_) (fun _ _ q => q.elim)
          obtain ⟨x67, rfl, h⟩ := q
          refine am_Wrun 1 (ps := []) (pc' := 768) (lv' := [(0, .inr (.inl (some 999))), (1, .inr (.inl (some 0))), (2, .inr (.inl (some 69))), (3, .inr (.inl (some 80))), (4, .inl (v4))]) (st' := [.inr (.inl (some 69)), .inl (x67)]) (M' := M68) rfl trivial ?_
          obtain ⟨hbc, h⟩ := h
          refine am_WcallV (y := 159) (n := 1) (a := 69) (f := 771) (as := []) (st' := [.inl (x67)]) rfl rfl rfl rfl rfl rfl rfl rfl rfl rfl hbc rfl (am_CC_le (Nat.le_of_ble_eq_true rfl) (tm_X6_firstError h)) (fun r M70 q => ?_) (fun _ _ q => q.elim)
          obtain ⟨x69, rfl, h⟩ := q
          obtain ⟨b0, b1, ht, hf⟩ := h
          refine am_Wbr (P := [am_rg x67, am_rg x69]) (c := x67 = x69) (t := 1705) (f := 774) (st' := []) rfl rfl ⟨b0, b1, trivial⟩ rfl (fun q => ?_) (fun q => ?_)
          · have h := ht q
            refine am_Wrun 2 (ps := []) (pc' := 23) (lv' := [(4, .inl (v4 + 3)), (0, .inr (.inl (some 999))), (1, .inr (.inl (some 0))), (2, .inr (.inl (some 69))), (3, .inr (.inl (some 80)))]) (st' := []) (M' := M70) rfl trivial ?_
            refine am_W_sub [1, 2, 3, 4, 0] rfl ?_
            exact tw_L_law_23 hX n b (v4 + 3) M70 h
          · have h := hf q
            refine am_Wrun 1 (ps := []) (pc' := 775) (lv' := [(0, .inr (.inl (some 999))), (1, .inr (.inl (some 0))), (2, .inr (.inl (some 69))), (3, .inr (.inl (some 80))), (4, .inl (v4))]) (st' := [.inl (0)]) (M' := M70) rfl trivial ?_
            exact am_Wretz rfl rfl (Or.inl rfl) h
        | 13, _, e2 =>
          have h := j13 e2
          refine ⟨_, 776, rfl, rfl, ?_⟩
          refine am_Wrun 2 (ps := []) (pc' := 778) (lv' := [(0, .inr (.inl (some 999))), (1, .inr (.inl (some 0))), (2, .inr (.inl (some 69))), (3, .inr (.inl (some 80))), (4, .inl (v4))]) (st' := [.inr (.inl (some 80)), .inr (.inl (some 0))]) (M' := M) rfl trivial ?_
          obtain ⟨hcap, h⟩ := h
          refine am_WcallS (y := 208) (n := 2) (f := 781) (co := 1) (as := [.inr (.inl (some 0)), .inr (.inl (some 80))]) (st' := []) rfl rfl rfl rfl rfl rfl rfl rfl rfl hcap rfl (am_CC_le (Nat.le_of_ble_eq_true rfl) (tm_L_addAll h)) (fun r M72 q => ?_) (fun _ _ q => q.elim)
          obtain ⟨x71, rfl, h⟩ := q
          refine am_Wrun 2 (ps := []) (pc' := 784) (lv' := [(5, .inl (x71)), (0, .inr (.inl (some 999))), (1, .inr (.inl (some 0))), (2, .inr (.inl (some 69))), (3, .inr (.inl (some 80))), (4, .inl (v4))]) (st' := [.inr (.inl (some 69))]) (M' := M72) rfl trivial ?_
          obtain ⟨hbc, h⟩ := h
          refine am_WcallV (y := 164) (n := 1) (a := 69) (f := 787) (as := []) (st' := []) rfl rfl rfl rfl rfl rfl rfl rfl rfl rfl hbc rfl (am_CC_le (Nat.le_of_ble_eq_true rfl) (tm_X6_addAll h)) (fun r M74 q => ?_) (fun _ _ q => q.elim)
          obtain ⟨x73, rfl, h⟩ := q
          refine am_Wrun 2 (ps := []) (pc' := 790) (lv' := [(6, .inl (x73)), (5, .inl (x71)), (0, .inr (.inl (some 999))), (1, .inr (.inl (some 0))), (2, .inr (.inl (some 69))), (3, .inr (.inl (some 80))), (4, .inl (v4))]) (st' := [.inr (.inl (some 69))]) (M' := M74) rfl trivial ?_
          obtain ⟨hbc, h⟩ := h
          refine am_WcallV (y := 109) (n := 1) (a := 69) (f := 793) (as := []) (st' := []) rfl rfl rfl rfl rfl rfl rfl rfl rfl rfl hbc rfl (am_CC_le (Nat.le_of_ble_eq_true rfl) (tm_X6_thrown h)) (fun r M76 q => ?_) (fun _ _ q => q.elim)
          obtain ⟨x75, rfl, h⟩ := q
          refine am_Wrun 1 (ps := []) (pc' := 795) (lv' := [(6, .inl (x73)), (5, .inl (x71)), (0, .inr (.inl (some 999))), (1, .inr (.inl (some 0))), (2, .inr (.inl (some 69))), (3, .inr (.inl (some 80))), (4, .inl (v4))]) (st' := [.inl (x71), .inl (x75)]) (M' := M76) rfl trivial ?_
          obtain ⟨b0, b1, ht, hf⟩ := h
          refine am_Wbr (P := [am_rg x75, am_rg x71]) (c := x75 = x71) (t := 800) (f := 798) (st' := []) rfl rfl ⟨b0, b1, trivial⟩ rfl (fun q => ?_) (fun q => ?_)
          · have h := ht q
            refine am_Wrun 1 (ps := []) (pc' := 802) (lv' := [(6, .inl (x73)), (5, .inl (x71)), (0, .inr (.inl (some 999))), (1, .inr (.inl (some 0))), (2, .inr (.inl (some 69))), (3, .inr (.inl (some 80))), (4, .inl (v4))]) (st' := [.inl (x71)]) (M' := M76) rfl trivial ?_
            obtain ⟨b0, ht, hf⟩ := h
            refine am_Wbr (P := [am_rg x71]) (c := ¬ x71 = 0) (t := 817) (f := 805) (st' := []) rfl rfl ⟨b0, trivial⟩ rfl (fun q => ?_) (fun q => ?_)
            · have h := ht q
              refine am_Wrun 3 (ps := []) (pc' := 23) (lv' := [(4, .inl (v4 + 3)), (6, .inl (x73)), (5, .inl (x71)), (0, .inr (.inl (some 999))), (1, .inr (.inl (some 0))), (2, .inr (.inl (some 69))), (3, .inr (.inl (some 80)))]) (st' := []) (M' := M76) rfl trivial ?_
              refine am_W_sub [3, 4, 5, 6, 0] rfl ?_
              exact tw_L_law_23 hX n (b + 1) (v4 + 3) M76 h
            · have h := hf q
              obtain ⟨c1_0, c2_0, h⟩ := h
              refine am_Wrun 6 (ps := [0 ≤ (0 : Int) ∧ (0 : Int) < 1, am_rg x73, (am_rl (M76 80 0) ∧ am_rl x73) ∨ (M76 80 0) = x73]) (pc' := 812) (lv' := [(6, .inl (x73)), (5, .inl (x71)), (0, .inr (.inl (some 999))), (1, .inr (.inl (some 0))), (2, .inr (.inl (some 69))), (3, .inr (.inl (some 80))), (4, .inl (v4))]) (st' := [.inl (am_lci (M76 80 0) x73)]) (M' := M76) rfl ⟨⟨by decide, by decide⟩, c1_0, c2_0, trivial⟩ ?_
              obtain ⟨b0, ht, hf⟩ := h
              refine am_Wbr (P := [am_rg (am_lci (M76 80 0) x73)]) (c := (am_lci (M76 80 0) x73) = 0) (t := 817) (f := 815) (st' := []) rfl rfl ⟨b0, trivial⟩ rfl (fun q => ?_) (fun q => ?_)
              · have h := ht q
                refine am_Wrun 3 (ps := []) (pc' := 23) (lv' := [(4, .inl (v4 + 3)), (6, .inl (x73)), (5, .inl (x71)), (0, .inr (.inl (some 999))), (1, .inr (.inl (some 0))), (2, .inr (.inl (some 69))), (3, .inr (.inl (some 80)))]) (st' := []) (M' := M76) rfl trivial ?_
                refine am_W_sub [3, 4, 5, 6, 0] rfl ?_
                exact tw_L_law_23 hX n (b + 1) (v4 + 3) M76 h
              · have h := hf q
                refine am_Wrun 1 (ps := []) (pc' := 816) (lv' := [(6, .inl (x73)), (5, .inl (x71)), (0, .inr (.inl (some 999))), (1, .inr (.inl (some 0))), (2, .inr (.inl (some 69))), (3, .inr (.inl (some 80))), (4, .inl (v4))]) (st' := [.inl (0)]) (M' := M76) rfl trivial ?_
                exact am_Wretz rfl rfl (Or.inl rfl) h
          · have h := hf q
            refine am_Wrun 1 (ps := []) (pc' := 799) (lv' := [(6, .inl (x73)), (5, .inl (x71)), (0, .inr (.inl (some 999))), (1, .inr (.inl (some 0))), (2, .inr (.inl (some 69))), (3, .inr (.inl (some 80))), (4, .inl (v4))]) (st' := [.inl (0)]) (M' := M76) rfl trivial ?_
            exact am_Wretz rfl rfl (Or.inl rfl) h
        | 14, _, e2 =>
          have h := j14 e2
          refine ⟨_, 820, rfl, rfl, ?_⟩
          refine am_Wrun 2 (ps := []) (pc' := 822) (lv' := [(0, .inr (.inl (some 999))), (1, .inr (.inl (some 0))), (2, .inr (.inl (some 69))), (3, .inr (.inl (some 80))), (4, .inl (v4))]) (st' := [.inr (.inl (some 80)), .inr (.inl (some 0))]) (M' := M) rfl trivial ?_
          obtain ⟨hcap, h⟩ := h
          refine am_WcallS (y := 209) (n := 2) (f := 825) (co := 1) (as := [.inr (.inl (some 0)), .inr (.inl (some 80))]) (st' := []) rfl rfl rfl rfl rfl rfl rfl rfl rfl hcap rfl (am_CC_le (Nat.le_of_ble_eq_true rfl) (tm_L_undo h)) (fun r M78 q => ?_) (fun _ _ q => q.elim)
          obtain ⟨x77, rfl, h⟩ := q
          refine am_Wrun 2 (ps := []) (pc' := 828) (lv' := [(5, .inl (x77)), (0, .inr (.inl (some 999))), (1, .inr (.inl (some 0))), (2, .inr (.inl (some 69))), (3, .inr (.inl (some 80))), (4, .inl (v4))]) (st' := [.inr (.inl (some 69))]) (M' := M78) rfl trivial ?_
          obtain ⟨hbc, h⟩ := h
          refine am_WcallV (y := 165) (n := 1) (a := 69) (f := 831) (as := []) (st' := []) rfl rfl rfl rfl rfl rfl rfl rfl rfl rfl hbc rfl (am_CC_le (Nat.le_of_ble_eq_true rfl) (tm_X6_undo h)) (fun r M80 q => ?_) (fun _ _ q => q.elim)
          obtain ⟨x79, rfl, h⟩ := q
          refine am_Wrun 2 (ps := []) (pc' := 834) (lv' := [(6, .inl (x79)), (5, .inl (x77)), (0, .inr (.inl (some 999))), (1, .inr (.inl (some 0))), (2, .inr (.inl (some 69))), (3, .inr (.inl (some 80))), (4, .inl (v4))]) (st' := [.inr (.inl (some 69))]) (M' := M80) rfl trivial ?_
          obtain ⟨hbc, h⟩ := h
          refine am_WcallV (y := 109) (n := 1) (a := 69) (f := 837) (as := []) (st' := []) rfl rfl rfl rfl rfl rfl rfl rfl rfl rfl hbc rfl (am_CC_le (Nat.le_of_ble_eq_true rfl) (tm_X6_thrown h)) (fun r M82 q => ?_) (fun _ _ q => q.elim)
          obtain ⟨x81, rfl, h⟩ := q
          refine am_Wrun 1 (ps := []) (pc' := 839) (lv' := [(6, .inl (x79)), (5, .inl (x77)), (0, .inr (.inl (some 999))), (1, .inr (.inl (some 0))), (2, .inr (.inl (some 69))), (3, .inr (.inl (some 80))), (4, .inl (v4))]) (st' := [.inl (x77), .inl (x81)]) (M' := M82) rfl trivial ?_
          obtain ⟨b0, b1, ht, hf⟩ := h
          refine am_Wbr (P := [am_rg x81, am_rg x77]) (c := x81 = x77) (t := 844) (f := 842) (st' := []) rfl rfl ⟨b0, b1, trivial⟩ rfl (fun q => ?_) (fun q => ?_)
          · have h := ht q
            refine am_Wrun 1 (ps := []) (pc' := 846) (lv' := [(6, .inl (x79)), (5, .inl (x77)), (0, .inr (.inl (some 999))), (1, .inr (.inl (some 0))), (2, .inr (.inl (some 69))), (3, .inr (.inl (some 80))), (4, .inl (v4))]) (st' := [.inl (x77)]) (M' := M82) rfl trivial ?_
            obtain ⟨b0, ht, hf⟩ := h
            refine am_Wbr (P := [am_rg x77]) (c := ¬ x77 = 0) (t := 861) (f := 849) (st' := []) rfl rfl ⟨b0, trivial⟩ rfl (fun q => ?_) (fun q => ?_)
            · have h := ht q
              refine am_Wrun 3 (ps := []) (pc' := 23) (lv' := [(4, .inl (v4 + 3)), (6, .inl (x79)), (5, .inl (x77)), (0, .inr (.inl (some 999))), (1, .inr (.inl (some 0))), (2, .inr (.inl (some 69))), (3, .inr (.inl (some 80)))]) (st' := []) (M' := M82) rfl trivial ?_
              refine am_W_sub [3, 4, 5, 6, 0] rfl ?_
              exact tw_L_law_23 hX n (b + 1) (v4 + 3) M82 h
            · have h := hf q
              obtain ⟨c1_0, c2_0, h⟩ := h
              refine am_Wrun 6 (ps := [0 ≤ (0 : Int) ∧ (0 : Int) < 1, am_rg x79, (am_rl (M82 80 0) ∧ am_rl x79) ∨ (M82 80 0) = x79]) (pc' := 856) (lv' := [(6, .inl (x79)), (5, .inl (x77)), (0, .inr (.inl (some 999))), (1, .inr (.inl (some 0))), (2, .inr (.inl (some 69))), (3, .inr (.inl (some 80))), (4, .inl (v4))]) (st' := [.inl (am_lci (M82 80 0) x79)]) (M' := M82) rfl ⟨⟨by decide, by decide⟩, c1_0, c2_0, trivial⟩ ?_
              obtain ⟨b0, ht, hf⟩ := h
              refine am_Wbr (P := [am_rg (am_lci (M82 80 0) x79)]) (c := (am_lci (M82 80 0) x79) = 0) (t := 861) (f := 859) (st' := []) rfl rfl ⟨b0, trivial⟩ rfl (fun q => ?_) (fun q => ?_)
              · have h := ht q
                refine am_Wrun 3 (ps := []) (pc' := 23) (lv' := [(4, .inl (v4 + 3)), (6, .inl (x79)), (5, .inl (x77)), (0, .inr (.inl (some 999))), (1, .inr (.inl (some 0))), (2, .inr (.inl (some 69))), (3, .inr (.inl (some 80)))]) (st' := []) (M' := M82) rfl trivial ?_
                refine am_W_sub [3, 4, 5, 6, 0] rfl ?_
                exact tw_L_law_23 hX n (b + 1) (v4 + 3) M82 h
              · have h := hf q
                refine am_Wrun 1 (ps := []) (pc' := 860) (lv' := [(6, .inl (x79)), (5, .inl (x77)), (0, .inr (.inl (some 999))), (1, .inr (.inl (some 0))), (2, .inr (.inl (some 69))), (3, .inr (.inl (some 80))), (4, .inl (v4))]) (st' := [.inl (0)]) (M' := M82) rfl trivial ?_
                exact am_Wretz rfl rfl (Or.inl rfl) h
          · have h := hf q
            refine am_Wrun 1 (ps := []) (pc' := 843) (lv' := [(6, .inl (x79)), (5, .inl (x77)), (0, .inr (.inl (some 999))), (1, .inr (.inl (some 0))), (2, .inr (.inl (some 69))), (3, .inr (.inl (some 80))), (4, .inl (v4))]) (st' := [.inl (0)]) (M' := M82) rfl trivial ?_
            exact am_Wretz rfl rfl (Or.inl rfl) h
        | 15, _, e2 =>
          have h := j15 e2
          refine ⟨_, 864, rfl, rfl, ?_⟩
          obtain ⟨c0_0, c1_0, h⟩ := h
          refine am_Wrun 12 (ps := [0 ≤ (v4 + 1) ∧ (v4 + 1) < scr.1, 0 ≤ (v4 + 2) ∧ (v4 + 2) < scr.1]) (pc' := 878) (lv' := [(0, .inr (.inl (some 999))), (1, .inr (.inl (some 0))), (2, .inr (.inl (some 69))), (3, .inr (.inl (some 80))), (4, .inl (v4))]) (st' := [.inr (.inl (some 80)), .inl (scr.2 (v4 + 2)), .inl (scr.2 (v4 + 1)), .inr (.inl (some 0))]) (M' := M) rfl ⟨c0_0, c1_0, trivial⟩ ?_
          obtain ⟨hcap, h⟩ := h
          refine am_WcallS (y := 210) (n := 4) (f := 881) (co := 1) (as := [.inr (.inl (some 0)), .inl (scr.2 (v4 + 1)), .inl (scr.2 (v4 + 2)), .inr (.inl (some 80))]) (st' := []) rfl rfl rfl rfl rfl rfl rfl rfl rfl hcap rfl (am_CC_le (Nat.le_of_ble_eq_true rfl) (tm_L_point h)) (fun r M84 q => ?_) (fun _ _ q => q.elim)
          obtain ⟨x83, rfl, h⟩ := q
          obtain ⟨c0_0, c1_0, h⟩ := h
          refine am_Wrun 12 (ps := [0 ≤ (v4 + 1) ∧ (v4 + 1) < scr.1, 0 ≤ (v4 + 2) ∧ (v4 + 2) < scr.1]) (pc' := 896) (lv' := [(5, .inl (x83)), (0, .inr (.inl (some 999))), (1, .inr (.inl (some 0))), (2, .inr (.inl (some 69))), (3, .inr (.inl (some 80))), (4, .inl (v4))]) (st' := [.inl (scr.2 (v4 + 2)), .inl (scr.2 (v4 + 1)), .inr (.inl (some 69))]) (M' := M84) rfl ⟨c0_0, c1_0, trivial⟩ ?_
          obtain ⟨hbc, h⟩ := h
          refine am_WcallV (y := 166) (n := 3) (a := 69) (f := 899) (as := [.inl (scr.2 (v4 + 1)), .inl (scr.2 (v4 + 2))]) (st' := []) rfl rfl rfl rfl rfl rfl rfl rfl rfl rfl hbc rfl (am_CC_le (Nat.le_of_ble_eq_true rfl) (tm_X6_point h)) (fun r M86 q => ?_) (fun _ _ q => q.elim)
          obtain ⟨x85, rfl, h⟩ := q
          refine am_Wrun 2 (ps := []) (pc' := 902) (lv' := [(6, .inl (x85)), (5, .inl (x83)), (0, .inr (.inl (some 999))), (1, .inr (.inl (some 0))), (2, .inr (.inl (some 69))), (3, .inr (.inl (some 80))), (4, .inl (v4))]) (st' := [.inr (.inl (some 69))]) (M' := M86) rfl trivial ?_
          obtain ⟨hbc, h⟩ := h
          refine am_WcallV (y := 109) (n := 1) (a := 69) (f := 905) (as := []) (st' := []) rfl rfl rfl rfl rfl rfl rfl rfl rfl rfl hbc rfl (am_CC_le (Nat.le_of_ble_eq_true rfl) (tm_X6_thrown h)) (fun r M88 q => ?_) (fun _ _ q => q.elim)
          obtain ⟨x87, rfl, h⟩ := q
          refine am_Wrun 1 (ps := []) (pc' := 907) (lv' := [(6, .inl (x85)), (5, .inl (x83)), (0, .inr (.inl (some 999))), (1, .inr (.inl (some 0))), (2, .inr (.inl (some 69))), (3, .inr (.inl (some 80))), (4, .inl (v4))]) (st' := [.inl (x83), .inl (x87)]) (M' := M88) rfl trivial ?_
          obtain ⟨b0, b1, ht, hf⟩ := h
          refine am_Wbr (P := [am_rg x87, am_rg x83]) (c := x87 = x83) (t := 912) (f := 910) (st' := []) rfl rfl ⟨b0, b1, trivial⟩ rfl (fun q => ?_) (fun q => ?_)
          · have h := ht q
            refine am_Wrun 1 (ps := []) (pc' := 914) (lv' := [(6, .inl (x85)), (5, .inl (x83)), (0, .inr (.inl (some 999))), (1, .inr (.inl (some 0))), (2, .inr (.inl (some 69))), (3, .inr (.inl (some 80))), (4, .inl (v4))]) (st' := [.inl (x83)]) (M' := M88) rfl trivial ?_
            obtain ⟨b0, ht, hf⟩ := h
            refine am_Wbr (P := [am_rg x83]) (c := ¬ x83 = 0) (t := 929) (f := 917) (st' := []) rfl rfl ⟨b0, trivial⟩ rfl (fun q => ?_) (fun q => ?_)
            · have h := ht q
              refine am_Wrun 3 (ps := []) (pc' := 23) (lv' := [(4, .inl (v4 + 3)), (6, .inl (x85)), (5, .inl (x83)), (0, .inr (.inl (some 999))), (1, .inr (.inl (some 0))), (2, .inr (.inl (some 69))), (3, .inr (.inl (some 80)))]) (st' := []) (M' := M88) rfl trivial ?_
              refine am_W_sub [3, 4, 5, 6, 0] rfl ?_
              exact tw_L_law_23 hX n (b + 1) (v4 + 3) M88 h
            · have h := hf q
              obtain ⟨c1_0, c2_0, h⟩ := h
              refine am_Wrun 6 (ps := [0 ≤ (0 : Int) ∧ (0 : Int) < 1, am_rg x85, (am_rl (M88 80 0) ∧ am_rl x85) ∨ (M88 80 0) = x85]) (pc' := 924) (lv' := [(6, .inl (x85)), (5, .inl (x83)), (0, .inr (.inl (some 999))), (1, .inr (.inl (some 0))), (2, .inr (.inl (some 69))), (3, .inr (.inl (some 80))), (4, .inl (v4))]) (st' := [.inl (am_lci (M88 80 0) x85)]) (M' := M88) rfl ⟨⟨by decide, by decide⟩, c1_0, c2_0, trivial⟩ ?_
              obtain ⟨b0, ht, hf⟩ := h
              refine am_Wbr (P := [am_rg (am_lci (M88 80 0) x85)]) (c := (am_lci (M88 80 0) x85) = 0) (t := 929) (f := 927) (st' := []) rfl rfl ⟨b0, trivial⟩ rfl (fun q => ?_) (fun q => ?_)
              · have h := ht q
                refine am_Wrun 3 (ps := []) (pc' := 23) (lv' := [(4, .inl (v4 + 3)), (6, .inl (x85)), (5, .inl (x83)), (0, .inr (.inl (some 999))), (1, .inr (.inl (some 0))), (2, .inr (.inl (some 69))), (3, .inr (.inl (some 80)))]) (st' := []) (M' := M88) rfl trivial ?_
                refine am_W_sub [3, 4, 5, 6, 0] rfl ?_
                exact tw_L_law_23 hX n (b + 1) (v4 + 3) M88 h
              · have h := hf q
                refine am_Wrun 1 (ps := []) (pc' := 928) (lv' := [(6, .inl (x85)), (5, .inl (x83)), (0, .inr (.inl (some 999))), (1, .inr (.inl (some 0))), (2, .inr (.inl (some 69))), (3, .inr (.inl (some 80))), (4, .inl (v4))]) (st' := [.inl (0)]) (M' := M88) rfl trivial ?_
                exact am_Wretz rfl rfl (Or.inl rfl) h
          · have h := hf q
            refine am_Wrun 1 (ps := []) (pc' := 911) (lv' := [(6, .inl (x85)), (5, .inl (x83)), (0, .inr (.inl (some 999))), (1, .inr (.inl (some 0))), (2, .inr (.inl (some 69))), (3, .inr (.inl (some 80))), (4, .inl (v4))]) (st' := [.inl (0)]) (M' := M88) rfl trivial ?_
            exact am_Wretz rfl rfl (Or.inl rfl) h
        | 16, _, e2 =>
          have h := j16 e2
          refine ⟨_, 932, rfl, rfl, ?_⟩
          obtain ⟨c0_0, c1_0, h⟩ := h
          refine am_Wrun 12 (ps := [0 ≤ (v4 + 1) ∧ (v4 + 1) < scr.1, 0 ≤ (v4 + 2) ∧ (v4 + 2) < scr.1]) (pc' := 946) (lv' := [(0, .inr (.inl (some 999))), (1, .inr (.inl (some 0))), (2, .inr (.inl (some 69))), (3, .inr (.inl (some 80))), (4, .inl (v4))]) (st' := [.inr (.inl (some 80)), .inl (scr.2 (v4 + 2)), .inl (scr.2 (v4 + 1)), .inr (.inl (some 0))]) (M' := M) rfl ⟨c0_0, c1_0, trivial⟩ ?_
          obtain ⟨hcap, h⟩ := h
          refine am_WcallS (y := 211) (n := 4) (f := 949) (co := 1) (as := [.inr (.inl (some 0)), .inl (scr.2 (v4 + 1)), .inl (scr.2 (v4 + 2)), .inr (.inl (some 80))]) (st' := []) rfl rfl rfl rfl rfl rfl rfl rfl rfl hcap rfl (am_CC_le (Nat.le_of_ble_eq_true rfl) (tm_L_error h)) (fun r M90 q => ?_) (fun _ _ q => q.elim)
          obtain ⟨x89, rfl, h⟩ := q
          obtain ⟨c0_0, c1_0, h⟩ := h
          refine am_Wrun 12 (ps := [0 ≤ (v4 + 1) ∧ (v4 + 1) < scr.1, 0 ≤ (v4 + 2) ∧ (v4 + 2) < scr.1]) (pc' := 964) (lv' := [(5, .inl (x89)), (0, .inr (.inl (some 999))), (1, .inr (.inl (some 0))), (2, .inr (.inl (some 69))), (3, .inr (.inl (some 80))), (4, .inl (v4))]) (st' := [.inl (scr.2 (v4 + 2)), .inl (scr.2 (v4 + 1)), .inr (.inl (some 69))]) (M' := M90) rfl ⟨c0_0, c1_0, trivial⟩ ?_
          obtain ⟨hbc, h⟩ := h
          refine am_WcallV (y := 169) (n := 3) (a := 69) (f := 967) (as := [.inl (scr.2 (v4 + 1)), .inl (scr.2 (v4 + 2))]) (st' := []) rfl rfl rfl rfl rfl rfl rfl rfl rfl rfl hbc rfl (am_CC_le (Nat.le_of_ble_eq_true rfl) (tm_X6_error h)) (fun r M92 q => ?_) (fun _ _ q => q.elim)
          obtain ⟨x91, rfl, h⟩ := q
          refine am_Wrun 2 (ps := []) (pc' := 970) (lv' := [(6, .inl (x91)), (5, .inl (x89)), (0, .inr (.inl (some 999))), (1, .inr (.inl (some 0))), (2, .inr (.inl (some 69))), (3, .inr (.inl (some 80))), (4, .inl (v4))]) (st' := [.inr (.inl (some 69))]) (M' := M92) rfl trivial ?_
          obtain ⟨hbc, h⟩ := h
          refine am_WcallV (y := 109) (n := 1) (a := 69) (f := 973) (as := []) (st' := []) rfl rfl rfl rfl rfl rfl rfl rfl rfl rfl hbc rfl (am_CC_le (Nat.le_of_ble_eq_true rfl) (tm_X6_thrown h)) (fun r M94 q => ?_) (fun _ _ q => q.elim)
          obtain ⟨x93, rfl, h⟩ := q
          refine am_Wrun 1 (ps := []) (pc' := 975) (lv' := [(6, .inl (x91)), (5, .inl (x89)), (0, .inr (.inl (some 999))), (1, .inr (.inl (some 0))), (2, .inr (.inl (some 69))), (3, .inr (.inl (some 80))), (4, .inl (v4))]) (st' := [.inl (x89), .inl (x93)]) (M' := M94) rfl trivial ?_
          obtain ⟨b0, b1, ht, hf⟩ := h
          refine am_Wbr (P := [am_rg x93, am_rg x89]) (c := x93 = x89) (t := 980) (f := 978) (st' := []) rfl rfl ⟨b0, b1, trivial⟩ rfl (fun q => ?_) (fun q => ?_)
          · have h := ht q
            refine am_Wrun 1 (ps := []) (pc' := 982) (lv' := [(6, .inl (x91)), (5, .inl (x89)), (0, .inr (.inl (some 999))), (1, .inr (.inl (some 0))), (2, .inr (.inl (some 69))), (3, .inr (.inl (some 80))), (4, .inl (v4))]) (st' := [.inl (x89)]) (M' := M94) rfl trivial ?_
            obtain ⟨b0, ht, hf⟩ := h
            refine am_Wbr (P := [am_rg x89]) (c := ¬ x89 = 0) (t := 997) (f := 985) (st' := []) rfl rfl ⟨b0, trivial⟩ rfl (fun q => ?_) (fun q => ?_)
            · have h := ht q
              refine am_Wrun 3 (ps := []) (pc' := 23) (lv' := [(4, .inl (v4 + 3)), (6, .inl (x91)), (5, .inl (x89)), (0, .inr (.inl (some 999))), (1, .inr (.inl (some 0))), (2, .inr (.inl (some 69))), (3, .inr (.inl (some 80)))]) (st' := []) (M' := M94) rfl trivial ?_
              refine am_W_sub [3, 4, 5, 6, 0] rfl ?_
              exact tw_L_law_23 hX n (b + 1) (v4 + 3) M94 h
            · have h := hf q
              obtain ⟨c1_0, c2_0, h⟩ := h
              refine am_Wrun 6 (ps := [0 ≤ (0 : Int) ∧ (0 : Int) < 1, am_rg x91, (am_rl (M94 80 0) ∧ am_rl x91) ∨ (M94 80 0) = x91]) (pc' := 992) (lv' := [(6, .inl (x91)), (5, .inl (x89)), (0, .inr (.inl (some 999))), (1, .inr (.inl (some 0))), (2, .inr (.inl (some 69))), (3, .inr (.inl (some 80))), (4, .inl (v4))]) (st' := [.inl (am_lci (M94 80 0) x91)]) (M' := M94) rfl ⟨⟨by decide, by decide⟩, c1_0, c2_0, trivial⟩ ?_
              obtain ⟨b0, ht, hf⟩ := h
              refine am_Wbr (P := [am_rg (am_lci (M94 80 0) x91)]) (c := (am_lci (M94 80 0) x91) = 0) (t := 997) (f := 995) (st' := []) rfl rfl ⟨b0, trivial⟩ rfl (fun q => ?_) (fun q => ?_)
              · have h := ht q
                refine am_Wrun 3 (ps := []) (pc' := 23) (lv' := [(4, .inl (v4 + 3)), (6, .inl (x91)), (5, .inl (x89)), (0, .inr (.inl (some 999))), (1, .inr (.inl (some 0))), (2, .inr (.inl (some 69))), (3, .inr (.inl (some 80)))]) (st' := []) (M' := M94) rfl trivial ?_
                refine am_W_sub [3, 4, 5, 6, 0] rfl ?_
                exact tw_L_law_23 hX n (b + 1) (v4 + 3) M94 h
              · have h := hf q
                refine am_Wrun 1 (ps := []) (pc' := 996) (lv' := [(6, .inl (x91)), (5, .inl (x89)), (0, .inr (.inl (some 999))), (1, .inr (.inl (some 0))), (2, .inr (.inl (some 69))), (3, .inr (.inl (some 80))), (4, .inl (v4))]) (st' := [.inl (0)]) (M' := M94) rfl trivial ?_
                exact am_Wretz rfl rfl (Or.inl rfl) h
          · have h := hf q
            refine am_Wrun 1 (ps := []) (pc' := 979) (lv' := [(6, .inl (x91)), (5, .inl (x89)), (0, .inr (.inl (some 999))), (1, .inr (.inl (some 0))), (2, .inr (.inl (some 69))), (3, .inr (.inl (some 80))), (4, .inl (v4))]) (st' := [.inl (0)]) (M' := M94) rfl trivial ?_
            exact am_Wretz rfl rfl (Or.inl rfl) h
        | 17, _, e2 =>
          have h := j17 e2
          refine ⟨_, 1000, rfl, rfl, ?_⟩
          obtain ⟨c0_0, c1_0, h⟩ := h
          refine am_Wrun 12 (ps := [0 ≤ (v4 + 1) ∧ (v4 + 1) < scr.1, 0 ≤ (v4 + 2) ∧ (v4 + 2) < scr.1]) (pc' := 1014) (lv' := [(0, .inr (.inl (some 999))), (1, .inr (.inl (some 0))), (2, .inr (.inl (some 69))), (3, .inr (.inl (some 80))), (4, .inl (v4))]) (st' := [.inr (.inl (some 80)), .inl (scr.2 (v4 + 2)), .inl (scr.2 (v4 + 1)), .inr (.inl (some 0))]) (M' := M) rfl ⟨c0_0, c1_0, trivial⟩ ?_
          obtain ⟨hcap, h⟩ := h
          refine am_WcallS (y := 212) (n := 4) (f := 1017) (co := 1) (as := [.inr (.inl (some 0)), .inl (scr.2 (v4 + 1)), .inl (scr.2 (v4 + 2)), .inr (.inl (some 80))]) (st' := []) rfl rfl rfl rfl rfl rfl rfl rfl rfl hcap rfl (am_CC_le (Nat.le_of_ble_eq_true rfl) (tm_L_reading h)) (fun r M96 q => ?_) (fun _ _ q => q.elim)
          obtain ⟨x95, rfl, h⟩ := q
          obtain ⟨c0_0, c1_0, h⟩ := h
          refine am_Wrun 12 (ps := [0 ≤ (v4 + 1) ∧ (v4 + 1) < scr.1, 0 ≤ (v4 + 2) ∧ (v4 + 2) < scr.1]) (pc' := 1032) (lv' := [(5, .inl (x95)), (0, .inr (.inl (some 999))), (1, .inr (.inl (some 0))), (2, .inr (.inl (some 69))), (3, .inr (.inl (some 80))), (4, .inl (v4))]) (st' := [.inl (scr.2 (v4 + 2)), .inl (scr.2 (v4 + 1)), .inr (.inl (some 69))]) (M' := M96) rfl ⟨c0_0, c1_0, trivial⟩ ?_
          obtain ⟨hbc, h⟩ := h
          refine am_WcallV (y := 173) (n := 3) (a := 69) (f := 1035) (as := [.inl (scr.2 (v4 + 1)), .inl (scr.2 (v4 + 2))]) (st' := []) rfl rfl rfl rfl rfl rfl rfl rfl rfl rfl hbc rfl (am_CC_le (Nat.le_of_ble_eq_true rfl) (tm_X6_reading h)) (fun r M98 q => ?_) (fun _ _ q => q.elim)
          obtain ⟨x97, rfl, h⟩ := q
          refine am_Wrun 2 (ps := []) (pc' := 1038) (lv' := [(6, .inl (x97)), (5, .inl (x95)), (0, .inr (.inl (some 999))), (1, .inr (.inl (some 0))), (2, .inr (.inl (some 69))), (3, .inr (.inl (some 80))), (4, .inl (v4))]) (st' := [.inr (.inl (some 69))]) (M' := M98) rfl trivial ?_
          obtain ⟨hbc, h⟩ := h
          refine am_WcallV (y := 109) (n := 1) (a := 69) (f := 1041) (as := []) (st' := []) rfl rfl rfl rfl rfl rfl rfl rfl rfl rfl hbc rfl (am_CC_le (Nat.le_of_ble_eq_true rfl) (tm_X6_thrown h)) (fun r M100 q => ?_) (fun _ _ q => q.elim)
          obtain ⟨x99, rfl, h⟩ := q
          refine am_Wrun 1 (ps := []) (pc' := 1043) (lv' := [(6, .inl (x97)), (5, .inl (x95)), (0, .inr (.inl (some 999))), (1, .inr (.inl (some 0))), (2, .inr (.inl (some 69))), (3, .inr (.inl (some 80))), (4, .inl (v4))]) (st' := [.inl (x95), .inl (x99)]) (M' := M100) rfl trivial ?_
          obtain ⟨b0, b1, ht, hf⟩ := h
          refine am_Wbr (P := [am_rg x99, am_rg x95]) (c := x99 = x95) (t := 1048) (f := 1046) (st' := []) rfl rfl ⟨b0, b1, trivial⟩ rfl (fun q => ?_) (fun q => ?_)
          · have h := ht q
            refine am_Wrun 1 (ps := []) (pc' := 1050) (lv' := [(6, .inl (x97)), (5, .inl (x95)), (0, .inr (.inl (some 999))), (1, .inr (.inl (some 0))), (2, .inr (.inl (some 69))), (3, .inr (.inl (some 80))), (4, .inl (v4))]) (st' := [.inl (x95)]) (M' := M100) rfl trivial ?_
            obtain ⟨b0, ht, hf⟩ := h
            refine am_Wbr (P := [am_rg x95]) (c := ¬ x95 = 0) (t := 1065) (f := 1053) (st' := []) rfl rfl ⟨b0, trivial⟩ rfl (fun q => ?_) (fun q => ?_)
            · have h := ht q
              refine am_Wrun 3 (ps := []) (pc' := 23) (lv' := [(4, .inl (v4 + 3)), (6, .inl (x97)), (5, .inl (x95)), (0, .inr (.inl (some 999))), (1, .inr (.inl (some 0))), (2, .inr (.inl (some 69))), (3, .inr (.inl (some 80)))]) (st' := []) (M' := M100) rfl trivial ?_
              refine am_W_sub [3, 4, 5, 6, 0] rfl ?_
              exact tw_L_law_23 hX n (b + 1) (v4 + 3) M100 h
            · have h := hf q
              obtain ⟨c1_0, c2_0, h⟩ := h
              refine am_Wrun 6 (ps := [0 ≤ (0 : Int) ∧ (0 : Int) < 1, am_rg x97, (am_rl (M100 80 0) ∧ am_rl x97) ∨ (M100 80 0) = x97]) (pc' := 1060) (lv' := [(6, .inl (x97)), (5, .inl (x95)), (0, .inr (.inl (some 999))), (1, .inr (.inl (some 0))), (2, .inr (.inl (some 69))), (3, .inr (.inl (some 80))), (4, .inl (v4))]) (st' := [.inl (am_lci (M100 80 0) x97)]) (M' := M100) rfl ⟨⟨by decide, by decide⟩, c1_0, c2_0, trivial⟩ ?_
              obtain ⟨b0, ht, hf⟩ := h
              refine am_Wbr (P := [am_rg (am_lci (M100 80 0) x97)]) (c := (am_lci (M100 80 0) x97) = 0) (t := 1065) (f := 1063) (st' := []) rfl rfl ⟨b0, trivial⟩ rfl (fun q => ?_) (fun q => ?_)
              · have h := ht q
                refine am_Wrun 3 (ps := []) (pc' := 23) (lv' := [(4, .inl (v4 + 3)), (6, .inl (x97)), (5, .inl (x95)), (0, .inr (.inl (some 999))), (1, .inr (.inl (some 0))), (2, .inr (.inl (some 69))), (3, .inr (.inl (some 80)))]) (st' := []) (M' := M100) rfl trivial ?_
                refine am_W_sub [3, 4, 5, 6, 0] rfl ?_
                exact tw_L_law_23 hX n (b + 1) (v4 + 3) M100 h
              · have h := hf q
                refine am_Wrun 1 (ps := []) (pc' := 1064) (lv' := [(6, .inl (x97)), (5, .inl (x95)), (0, .inr (.inl (some 999))), (1, .inr (.inl (some 0))), (2, .inr (.inl (some 69))), (3, .inr (.inl (some 80))), (4, .inl (v4))]) (st' := [.inl (0)]) (M' := M100) rfl trivial ?_
                exact am_Wretz rfl rfl (Or.inl rfl) h
          · have h := hf q
            refine am_Wrun 1 (ps := []) (pc' := 1047) (lv' := [(6, .inl (x97)), (5, .inl (x95)), (0, .inr (.inl (some 999))), (1, .inr (.inl (some 0))), (2, .inr (.inl (some 69))), (3, .inr (.inl (some 80))), (4, .inl (v4))]) (st' := [.inl (0)]) (M' := M100) rfl trivial ?_
            exact am_Wretz rfl rfl (Or.inl rfl) h
        | 18, _, e2 =>
          have h := j18 e2
          refine ⟨_, 1068, rfl, rfl, ?_⟩
          obtain ⟨c0_0, c1_0, h⟩ := h
          refine am_Wrun 12 (ps := [0 ≤ (v4 + 1) ∧ (v4 + 1) < scr.1, 0 ≤ (v4 + 2) ∧ (v4 + 2) < scr.1]) (pc' := 1082) (lv' := [(0, .inr (.inl (some 999))), (1, .inr (.inl (some 0))), (2, .inr (.inl (some 69))), (3, .inr (.inl (some 80))), (4, .inl (v4))]) (st' := [.inr (.inl (some 80)), .inl (scr.2 (v4 + 2)), .inl (scr.2 (v4 + 1)), .inr (.inl (some 0))]) (M' := M) rfl ⟨c0_0, c1_0, trivial⟩ ?_
          obtain ⟨hcap, h⟩ := h
          refine am_WcallS (y := 213) (n := 4) (f := 1085) (co := 1) (as := [.inr (.inl (some 0)), .inl (scr.2 (v4 + 1)), .inl (scr.2 (v4 + 2)), .inr (.inl (some 80))]) (st' := []) rfl rfl rfl rfl rfl rfl rfl rfl rfl hcap rfl (am_CC_le (Nat.le_of_ble_eq_true rfl) (tm_L_stretch h)) (fun r M102 q => ?_) (fun _ _ q => q.elim)
          obtain ⟨x101, rfl, h⟩ := q
          obtain ⟨c0_0, c1_0, h⟩ := h
          refine am_Wrun 12 (ps := [0 ≤ (v4 + 1) ∧ (v4 + 1) < scr.1, 0 ≤ (v4 + 2) ∧ (v4 + 2) < scr.1]) (pc' := 1100) (lv' := [(5, .inl (x101)), (0, .inr (.inl (some 999))), (1, .inr (.inl (some 0))), (2, .inr (.inl (some 69))), (3, .inr (.inl (some 80))), (4, .inl (v4))]) (st' := [.inl (scr.2 (v4 + 2)), .inl (scr.2 (v4 + 1)), .inr (.inl (some 69))]) (M' := M102) rfl ⟨c0_0, c1_0, trivial⟩ ?_
          obtain ⟨hbc, h⟩ := h
          refine am_WcallV (y := 174) (n := 3) (a := 69) (f := 1103) (as := [.inl (scr.2 (v4 + 1)), .inl (scr.2 (v4 + 2))]) (st' := []) rfl rfl rfl rfl rfl rfl rfl rfl rfl rfl hbc rfl (am_CC_le (Nat.le_of_ble_eq_true rfl) (tm_X6_stretch h)) (fun r M104 q => ?_) (fun _ _ q => q.elim)
          obtain ⟨x103, rfl, h⟩ := q
          refine am_Wrun 2 (ps := []) (pc' := 1106) (lv' := [(6, .inl (x103)), (5, .inl (x101)), (0, .inr (.inl (some 999))), (1, .inr (.inl (some 0))), (2, .inr (.inl (some 69))), (3, .inr (.inl (some 80))), (4, .inl (v4))]) (st' := [.inr (.inl (some 69))]) (M' := M104) rfl trivial ?_
          obtain ⟨hbc, h⟩ := h
          refine am_WcallV (y := 109) (n := 1) (a := 69) (f := 1109) (as := []) (st' := []) rfl rfl rfl rfl rfl rfl rfl rfl rfl rfl hbc rfl (am_CC_le (Nat.le_of_ble_eq_true rfl) (tm_X6_thrown h)) (fun r M106 q => ?_) (fun _ _ q => q.elim)
          obtain ⟨x105, rfl, h⟩ := q
          refine am_Wrun 1 (ps := []) (pc' := 1111) (lv' := [(6, .inl (x103)), (5, .inl (x101)), (0, .inr (.inl (some 999))), (1, .inr (.inl (some 0))), (2, .inr (.inl (some 69))), (3, .inr (.inl (some 80))), (4, .inl (v4))]) (st' := [.inl (x101), .inl (x105)]) (M' := M106) rfl trivial ?_
          obtain ⟨b0, b1, ht, hf⟩ := h
          refine am_Wbr (P := [am_rg x105, am_rg x101]) (c := x105 = x101) (t := 1116) (f := 1114) (st' := []) rfl rfl ⟨b0, b1, trivial⟩ rfl (fun q => ?_) (fun q => ?_)
          · have h := ht q
            refine am_Wrun 1 (ps := []) (pc' := 1118) (lv' := [(6, .inl (x103)), (5, .inl (x101)), (0, .inr (.inl (some 999))), (1, .inr (.inl (some 0))), (2, .inr (.inl (some 69))), (3, .inr (.inl (some 80))), (4, .inl (v4))]) (st' := [.inl (x101)]) (M' := M106) rfl trivial ?_
            obtain ⟨b0, ht, hf⟩ := h
            refine am_Wbr (P := [am_rg x101]) (c := ¬ x101 = 0) (t := 1133) (f := 1121) (st' := []) rfl rfl ⟨b0, trivial⟩ rfl (fun q => ?_) (fun q => ?_)
            · have h := ht q
              refine am_Wrun 3 (ps := []) (pc' := 23) (lv' := [(4, .inl (v4 + 3)), (6, .inl (x103)), (5, .inl (x101)), (0, .inr (.inl (some 999))), (1, .inr (.inl (some 0))), (2, .inr (.inl (some 69))), (3, .inr (.inl (some 80)))]) (st' := []) (M' := M106) rfl trivial ?_
              refine am_W_sub [3, 4, 5, 6, 0] rfl ?_
              exact tw_L_law_23 hX n (b + 1) (v4 + 3) M106 h
            · have h := hf q
              obtain ⟨c1_0, c2_0, h⟩ := h
              refine am_Wrun 6 (ps := [0 ≤ (0 : Int) ∧ (0 : Int) < 1, am_rg x103, (am_rl (M106 80 0) ∧ am_rl x103) ∨ (M106 80 0) = x103]) (pc' := 1128) (lv' := [(6, .inl (x103)), (5, .inl (x101)), (0, .inr (.inl (some 999))), (1, .inr (.inl (some 0))), (2, .inr (.inl (some 69))), (3, .inr (.inl (some 80))), (4, .inl (v4))]) (st' := [.inl (am_lci (M106 80 0) x103)]) (M' := M106) rfl ⟨⟨by decide, by decide⟩, c1_0, c2_0, trivial⟩ ?_
              obtain ⟨b0, ht, hf⟩ := h
              refine am_Wbr (P := [am_rg (am_lci (M106 80 0) x103)]) (c := (am_lci (M106 80 0) x103) = 0) (t := 1133) (f := 1131) (st' := []) rfl rfl ⟨b0, trivial⟩ rfl (fun q => ?_) (fun q => ?_)
              · have h := ht q
                refine am_Wrun 3 (ps := []) (pc' := 23) (lv' := [(4, .inl (v4 + 3)), (6, .inl (x103)), (5, .inl (x101)), (0, .inr (.inl (some 999))), (1, .inr (.inl (some 0))), (2, .inr (.inl (some 69))), (3, .inr (.inl (some 80)))]) (st' := []) (M' := M106) rfl trivial ?_
                refine am_W_sub [3, 4, 5, 6, 0] rfl ?_
                exact tw_L_law_23 hX n (b + 1) (v4 + 3) M106 h
              · have h := hf q
                refine am_Wrun 1 (ps := []) (pc' := 1132) (lv' := [(6, .inl (x103)), (5, .inl (x101)), (0, .inr (.inl (some 999))), (1, .inr (.inl (some 0))), (2, .inr (.inl (some 69))), (3, .inr (.inl (some 80))), (4, .inl (v4))]) (st' := [.inl (0)]) (M' := M106) rfl trivial ?_
                exact am_Wretz rfl rfl (Or.inl rfl) h
          · have h := hf q
            refine am_Wrun 1 (ps := []) (pc' := 1115) (lv' := [(6, .inl (x103)), (5, .inl (x101)), (0, .inr (.inl (some 999))), (1, .inr (.inl (some 0))), (2, .inr (.inl (some 69))), (3, .inr (.inl (some 80))), (4, .inl (v4))]) (st' := [.inl (0)]) (M' := M106) rfl trivial ?_
            exact am_Wretz rfl rfl (Or.inl rfl) h
        | 19, _, e2 =>
          have h := j19 e2
          refine ⟨_, 1136, rfl, rfl, ?_⟩
          obtain ⟨c0_0, c1_0, h⟩ := h
          refine am_Wrun 12 (ps := [0 ≤ (v4 + 1) ∧ (v4 + 1) < scr.1, 0 ≤ (v4 + 2) ∧ (v4 + 2) < scr.1]) (pc' := 1150) (lv' := [(0, .inr (.inl (some 999))), (1, .inr (.inl (some 0))), (2, .inr (.inl (some 69))), (3, .inr (.inl (some 80))), (4, .inl (v4))]) (st' := [.inr (.inl (some 80)), .inl (scr.2 (v4 + 2)), .inl (scr.2 (v4 + 1)), .inr (.inl (some 0))]) (M' := M) rfl ⟨c0_0, c1_0, trivial⟩ ?_
          obtain ⟨hcap, h⟩ := h
          refine am_WcallS (y := 214) (n := 4) (f := 1153) (co := 1) (as := [.inr (.inl (some 0)), .inl (scr.2 (v4 + 1)), .inl (scr.2 (v4 + 2)), .inr (.inl (some 80))]) (st' := []) rfl rfl rfl rfl rfl rfl rfl rfl rfl hcap rfl (am_CC_le (Nat.le_of_ble_eq_true rfl) (tm_L_noteAt h)) (fun r M108 q => ?_) (fun _ _ q => q.elim)
          obtain ⟨x107, rfl, h⟩ := q
          obtain ⟨c0_0, c1_0, h⟩ := h
          refine am_Wrun 12 (ps := [0 ≤ (v4 + 1) ∧ (v4 + 1) < scr.1, 0 ≤ (v4 + 2) ∧ (v4 + 2) < scr.1]) (pc' := 1168) (lv' := [(5, .inl (x107)), (0, .inr (.inl (some 999))), (1, .inr (.inl (some 0))), (2, .inr (.inl (some 69))), (3, .inr (.inl (some 80))), (4, .inl (v4))]) (st' := [.inl (scr.2 (v4 + 2)), .inl (scr.2 (v4 + 1)), .inr (.inl (some 69))]) (M' := M108) rfl ⟨c0_0, c1_0, trivial⟩ ?_
          obtain ⟨hbc, h⟩ := h
          refine am_WcallV (y := 176) (n := 3) (a := 69) (f := 1171) (as := [.inl (scr.2 (v4 + 1)), .inl (scr.2 (v4 + 2))]) (st' := []) rfl rfl rfl rfl rfl rfl rfl rfl rfl rfl hbc rfl (am_CC_le (Nat.le_of_ble_eq_true rfl) (tm_X6_noteAt h)) (fun r M110 q => ?_) (fun _ _ q => q.elim)
          obtain ⟨x109, rfl, h⟩ := q
          refine am_Wrun 2 (ps := []) (pc' := 1174) (lv' := [(6, .inl (x109)), (5, .inl (x107)), (0, .inr (.inl (some 999))), (1, .inr (.inl (some 0))), (2, .inr (.inl (some 69))), (3, .inr (.inl (some 80))), (4, .inl (v4))]) (st' := [.inr (.inl (some 69))]) (M' := M110) rfl trivial ?_
          obtain ⟨hbc, h⟩ := h
          refine am_WcallV (y := 109) (n := 1) (a := 69) (f := 1177) (as := []) (st' := []) rfl rfl rfl rfl rfl rfl rfl rfl rfl rfl hbc rfl (am_CC_le (Nat.le_of_ble_eq_true rfl) (tm_X6_thrown h)) (fun r M112 q => ?_) (fun _ _ q => q.elim)
          obtain ⟨x111, rfl, h⟩ := q
          refine am_Wrun 1 (ps := []) (pc' := 1179) (lv' := [(6, .inl (x109)), (5, .inl (x107)), (0, .inr (.inl (some 999))), (1, .inr (.inl (some 0))), (2, .inr (.inl (some 69))), (3, .inr (.inl (some 80))), (4, .inl (v4))]) (st' := [.inl (x107), .inl (x111)]) (M' := M112) rfl trivial ?_
          obtain ⟨b0, b1, ht, hf⟩ := h
          refine am_Wbr (P := [am_rg x111, am_rg x107]) (c := x111 = x107) (t := 1184) (f := 1182) (st' := []) rfl rfl ⟨b0, b1, trivial⟩ rfl (fun q => ?_) (fun q => ?_)
          · have h := ht q
            refine am_Wrun 1 (ps := []) (pc' := 1186) (lv' := [(6, .inl (x109)), (5, .inl (x107)), (0, .inr (.inl (some 999))), (1, .inr (.inl (some 0))), (2, .inr (.inl (some 69))), (3, .inr (.inl (some 80))), (4, .inl (v4))]) (st' := [.inl (x107)]) (M' := M112) rfl trivial ?_
            obtain ⟨b0, ht, hf⟩ := h
            refine am_Wbr (P := [am_rg x107]) (c := ¬ x107 = 0) (t := 1201) (f := 1189) (st' := []) rfl rfl ⟨b0, trivial⟩ rfl (fun q => ?_) (fun q => ?_)
            · have h := ht q
              refine am_Wrun 3 (ps := []) (pc' := 23) (lv' := [(4, .inl (v4 + 3)), (6, .inl (x109)), (5, .inl (x107)), (0, .inr (.inl (some 999))), (1, .inr (.inl (some 0))), (2, .inr (.inl (some 69))), (3, .inr (.inl (some 80)))]) (st' := []) (M' := M112) rfl trivial ?_
              refine am_W_sub [3, 4, 5, 6, 0] rfl ?_
              exact tw_L_law_23 hX n (b + 1) (v4 + 3) M112 h
            · have h := hf q
              obtain ⟨c1_0, c2_0, h⟩ := h
              refine am_Wrun 6 (ps := [0 ≤ (0 : Int) ∧ (0 : Int) < 1, am_rg x109, (am_rl (M112 80 0) ∧ am_rl x109) ∨ (M112 80 0) = x109]) (pc' := 1196) (lv' := [(6, .inl (x109)), (5, .inl (x107)), (0, .inr (.inl (some 999))), (1, .inr (.inl (some 0))), (2, .inr (.inl (some 69))), (3, .inr (.inl (some 80))), (4, .inl (v4))]) (st' := [.inl (am_lci (M112 80 0) x109)]) (M' := M112) rfl ⟨⟨by decide, by decide⟩, c1_0, c2_0, trivial⟩ ?_
              obtain ⟨b0, ht, hf⟩ := h
              refine am_Wbr (P := [am_rg (am_lci (M112 80 0) x109)]) (c := (am_lci (M112 80 0) x109) = 0) (t := 1201) (f := 1199) (st' := []) rfl rfl ⟨b0, trivial⟩ rfl (fun q => ?_) (fun q => ?_)
              · have h := ht q
                refine am_Wrun 3 (ps := []) (pc' := 23) (lv' := [(4, .inl (v4 + 3)), (6, .inl (x109)), (5, .inl (x107)), (0, .inr (.inl (some 999))), (1, .inr (.inl (some 0))), (2, .inr (.inl (some 69))), (3, .inr (.inl (some 80)))]) (st' := []) (M' := M112) rfl trivial ?_
                refine am_W_sub [3, 4, 5, 6, 0] rfl ?_
                exact tw_L_law_23 hX n (b + 1) (v4 + 3) M112 h
              · have h := hf q
                refine am_Wrun 1 (ps := []) (pc' := 1200) (lv' := [(6, .inl (x109)), (5, .inl (x107)), (0, .inr (.inl (some 999))), (1, .inr (.inl (some 0))), (2, .inr (.inl (some 69))), (3, .inr (.inl (some 80))), (4, .inl (v4))]) (st' := [.inl (0)]) (M' := M112) rfl trivial ?_
                exact am_Wretz rfl rfl (Or.inl rfl) h
          · have h := hf q
            refine am_Wrun 1 (ps := []) (pc' := 1183) (lv' := [(6, .inl (x109)), (5, .inl (x107)), (0, .inr (.inl (some 999))), (1, .inr (.inl (some 0))), (2, .inr (.inl (some 69))), (3, .inr (.inl (some 80))), (4, .inl (v4))]) (st' := [.inl (0)]) (M' := M112) rfl trivial ?_
            exact am_Wretz rfl rfl (Or.inl rfl) h
        | 20, _, e2 =>
          have h := j20 e2
          refine ⟨_, 1204, rfl, rfl, ?_⟩
          obtain ⟨c0_0, h⟩ := h
          refine am_Wrun 7 (ps := [0 ≤ (v4 + 1) ∧ (v4 + 1) < scr.1]) (pc' := 1212) (lv' := [(0, .inr (.inl (some 999))), (1, .inr (.inl (some 0))), (2, .inr (.inl (some 69))), (3, .inr (.inl (some 80))), (4, .inl (v4))]) (st' := [.inr (.inl (some 80)), .inl (scr.2 (v4 + 1)), .inr (.inl (some 0))]) (M' := M) rfl ⟨c0_0, trivial⟩ ?_
          obtain ⟨hcap, h⟩ := h
          refine am_WcallS (y := 215) (n := 3) (f := 1215) (co := 1) (as := [.inr (.inl (some 0)), .inl (scr.2 (v4 + 1)), .inr (.inl (some 80))]) (st' := []) rfl rfl rfl rfl rfl rfl rfl rfl rfl hcap rfl (am_CC_le (Nat.le_of_ble_eq_true rfl) (tm_L_count h)) (fun r M114 q => ?_) (fun _ _ q => q.elim)
          obtain ⟨x113, rfl, h⟩ := q
          obtain ⟨c0_0, h⟩ := h
          refine am_Wrun 7 (ps := [0 ≤ (v4 + 1) ∧ (v4 + 1) < scr.1]) (pc' := 1224) (lv' := [(5, .inl (x113)), (0, .inr (.inl (some 999))), (1, .inr (.inl (some 0))), (2, .inr (.inl (some 69))), (3, .inr (.inl (some 80))), (4, .inl (v4))]) (st' := [.inl (scr.2 (v4 + 1)), .inr (.inl (some 69))]) (M' := M114) rfl ⟨c0_0, trivial⟩ ?_
          obtain ⟨hbc, h⟩ := h
          refine am_WcallV (y := 178) (n := 2) (a := 69) (f := 1227) (as := [.inl (scr.2 (v4 + 1))]) (st' := []) rfl rfl rfl rfl rfl rfl rfl rfl rfl rfl hbc rfl (am_CC_le (Nat.le_of_ble_eq_true rfl) (tm_X6_count h)) (fun r M116 q => ?_) (fun _ _ q => q.elim)
          obtain ⟨x115, rfl, h⟩ := q
          refine am_Wrun 2 (ps := []) (pc' := 1230) (lv' := [(6, .inl (x115)), (5, .inl (x113)), (0, .inr (.inl (some 999))), (1, .inr (.inl (some 0))), (2, .inr (.inl (some 69))), (3, .inr (.inl (some 80))), (4, .inl (v4))]) (st' := [.inr (.inl (some 69))]) (M' := M116) rfl trivial ?_
          obtain ⟨hbc, h⟩ := h
          refine am_WcallV (y := 109) (n := 1) (a := 69) (f := 1233) (as := []) (st' := []) rfl rfl rfl rfl rfl rfl rfl rfl rfl rfl hbc rfl (am_CC_le (Nat.le_of_ble_eq_true rfl) (tm_X6_thrown h)) (fun r M118 q => ?_) (fun _ _ q => q.elim)
          obtain ⟨x117, rfl, h⟩ := q
          refine am_Wrun 1 (ps := []) (pc' := 1235) (lv' := [(6, .inl (x115)), (5, .inl (x113)), (0, .inr (.inl (some 999))), (1, .inr (.inl (some 0))), (2, .inr (.inl (some 69))), (3, .inr (.inl (some 80))), (4, .inl (v4))]) (st' := [.inl (x113), .inl (x117)]) (M' := M118) rfl trivial ?_
          obtain ⟨b0, b1, ht, hf⟩ := h
          refine am_Wbr (P := [am_rg x117, am_rg x113]) (c := x117 = x113) (t := 1240) (f := 1238) (st' := []) rfl rfl ⟨b0, b1, trivial⟩ rfl (fun q => ?_) (fun q => ?_)
          · have h := ht q
            refine am_Wrun 1 (ps := []) (pc' := 1242) (lv' := [(6, .inl (x115)), (5, .inl (x113)), (0, .inr (.inl (some 999))), (1, .inr (.inl (some 0))), (2, .inr (.inl (some 69))), (3, .inr (.inl (some 80))), (4, .inl (v4))]) (st' := [.inl (x113)]) (M' := M118) rfl trivial ?_
            obtain ⟨b0, ht, hf⟩ := h
            refine am_Wbr (P := [am_rg x113]) (c := ¬ x113 = 0) (t := 1257) (f := 1245) (st' := []) rfl rfl ⟨b0, trivial⟩ rfl (fun q => ?_) (fun q => ?_)
            · have h := ht q
              refine am_Wrun 3 (ps := []) (pc' := 23) (lv' := [(4, .inl (v4 + 3)), (6, .inl (x115)), (5, .inl (x113)), (0, .inr (.inl (some 999))), (1, .inr (.inl (some 0))), (2, .inr (.inl (some 69))), (3, .inr (.inl (some 80)))]) (st' := []) (M' := M118) rfl trivial ?_
              refine am_W_sub [3, 4, 5, 6, 0] rfl ?_
              exact tw_L_law_23 hX n (b + 1) (v4 + 3) M118 h
            · have h := hf q
              obtain ⟨c1_0, c2_0, h⟩ := h
              refine am_Wrun 6 (ps := [0 ≤ (0 : Int) ∧ (0 : Int) < 1, am_rg x115, (am_rl (M118 80 0) ∧ am_rl x115) ∨ (M118 80 0) = x115]) (pc' := 1252) (lv' := [(6, .inl (x115)), (5, .inl (x113)), (0, .inr (.inl (some 999))), (1, .inr (.inl (some 0))), (2, .inr (.inl (some 69))), (3, .inr (.inl (some 80))), (4, .inl (v4))]) (st' := [.inl (am_lci (M118 80 0) x115)]) (M' := M118) rfl ⟨⟨by decide, by decide⟩, c1_0, c2_0, trivial⟩ ?_
              obtain ⟨b0, ht, hf⟩ := h
              refine am_Wbr (P := [am_rg (am_lci (M118 80 0) x115)]) (c := (am_lci (M118 80 0) x115) = 0) (t := 1257) (f := 1255) (st' := []) rfl rfl ⟨b0, trivial⟩ rfl (fun q => ?_) (fun q => ?_)
              · have h := ht q
                refine am_Wrun 3 (ps := []) (pc' := 23) (lv' := [(4, .inl (v4 + 3)), (6, .inl (x115)), (5, .inl (x113)), (0, .inr (.inl (some 999))), (1, .inr (.inl (some 0))), (2, .inr (.inl (some 69))), (3, .inr (.inl (some 80)))]) (st' := []) (M' := M118) rfl trivial ?_
                refine am_W_sub [3, 4, 5, 6, 0] rfl ?_
                exact tw_L_law_23 hX n (b + 1) (v4 + 3) M118 h
              · have h := hf q
                refine am_Wrun 1 (ps := []) (pc' := 1256) (lv' := [(6, .inl (x115)), (5, .inl (x113)), (0, .inr (.inl (some 999))), (1, .inr (.inl (some 0))), (2, .inr (.inl (some 69))), (3, .inr (.inl (some 80))), (4, .inl (v4))]) (st' := [.inl (0)]) (M' := M118) rfl trivial ?_
                exact am_Wretz rfl rfl (Or.inl rfl) h
          · have h := hf q
            refine am_Wrun 1 (ps := []) (pc' := 1239) (lv' := [(6, .inl (x115)), (5, .inl (x113)), (0, .inr (.inl (some 999))), (1, .inr (.inl (some 0))), (2, .inr (.inl (some 69))), (3, .inr (.inl (some 80))), (4, .inl (v4))]) (st' := [.inl (0)]) (M' := M118) rfl trivial ?_
            exact am_Wretz rfl rfl (Or.inl rfl) h
        | 21, _, e2 =>
          have h := j21 e2
          refine ⟨_, 1260, rfl, rfl, ?_⟩
          obtain ⟨c0_0, h⟩ := h
          refine am_Wrun 7 (ps := [0 ≤ (v4 + 1) ∧ (v4 + 1) < scr.1]) (pc' := 1268) (lv' := [(0, .inr (.inl (some 999))), (1, .inr (.inl (some 0))), (2, .inr (.inl (some 69))), (3, .inr (.inl (some 80))), (4, .inl (v4))]) (st' := [.inr (.inl (some 80)), .inl (scr.2 (v4 + 1)), .inr (.inl (some 0))]) (M' := M) rfl ⟨c0_0, trivial⟩ ?_
          obtain ⟨hcap, h⟩ := h
          refine am_WcallS (y := 216) (n := 3) (f := 1271) (co := 1) (as := [.inr (.inl (some 0)), .inl (scr.2 (v4 + 1)), .inr (.inl (some 80))]) (st' := []) rfl rfl rfl rfl rfl rfl rfl rfl rfl hcap rfl (am_CC_le (Nat.le_of_ble_eq_true rfl) (tm_L_setting h)) (fun r M120 q => ?_) (fun _ _ q => q.elim)
          obtain ⟨x119, rfl, h⟩ := q
          obtain ⟨c0_0, h⟩ := h
          refine am_Wrun 7 (ps := [0 ≤ (v4 + 1) ∧ (v4 + 1) < scr.1]) (pc' := 1280) (lv' := [(5, .inl (x119)), (0, .inr (.inl (some 999))), (1, .inr (.inl (some 0))), (2, .inr (.inl (some 69))), (3, .inr (.inl (some 80))), (4, .inl (v4))]) (st' := [.inl (scr.2 (v4 + 1)), .inr (.inl (some 69))]) (M' := M120) rfl ⟨c0_0, trivial⟩ ?_
          obtain ⟨hbc, h⟩ := h
          refine am_WcallV (y := 184) (n := 2) (a := 69) (f := 1283) (as := [.inl (scr.2 (v4 + 1))]) (st' := []) rfl rfl rfl rfl rfl rfl rfl rfl rfl rfl hbc rfl (am_CC_le (Nat.le_of_ble_eq_true rfl) (tm_X6_setting h)) (fun r M122 q => ?_) (fun _ _ q => q.elim)
          obtain ⟨x121, rfl, h⟩ := q
          refine am_Wrun 2 (ps := []) (pc' := 1286) (lv' := [(6, .inl (x121)), (5, .inl (x119)), (0, .inr (.inl (some 999))), (1, .inr (.inl (some 0))), (2, .inr (.inl (some 69))), (3, .inr (.inl (some 80))), (4, .inl (v4))]) (st' := [.inr (.inl (some 69))]) (M' := M122) rfl trivial ?_
          obtain ⟨hbc, h⟩ := h
          refine am_WcallV (y := 109) (n := 1) (a := 69) (f := 1289) (as := []) (st' := []) rfl rfl rfl rfl rfl rfl rfl rfl rfl rfl hbc rfl (am_CC_le (Nat.le_of_ble_eq_true rfl) (tm_X6_thrown h)) (fun r M124 q => ?_) (fun _ _ q => q.elim)
          obtain ⟨x123, rfl, h⟩ := q
          refine am_Wrun 1 (ps := []) (pc' := 1291) (lv' := [(6, .inl (x121)), (5, .inl (x119)), (0, .inr (.inl (some 999))), (1, .inr (.inl (some 0))), (2, .inr (.inl (some 69))), (3, .inr (.inl (some 80))), (4, .inl (v4))]) (st' := [.inl (x119), .inl (x123)]) (M' := M124) rfl trivial ?_
          obtain ⟨b0, b1, ht, hf⟩ := h
          refine am_Wbr (P := [am_rg x123, am_rg x119]) (c := x123 = x119) (t := 1296) (f := 1294) (st' := []) rfl rfl ⟨b0, b1, trivial⟩ rfl (fun q => ?_) (fun q => ?_)
          · have h := ht q
            refine am_Wrun 1 (ps := []) (pc' := 1298) (lv' := [(6, .inl (x121)), (5, .inl (x119)), (0, .inr (.inl (some 999))), (1, .inr (.inl (some 0))), (2, .inr (.inl (some 69))), (3, .inr (.inl (some 80))), (4, .inl (v4))]) (st' := [.inl (x119)]) (M' := M124) rfl trivial ?_
            obtain ⟨b0, ht, hf⟩ := h
            refine am_Wbr (P := [am_rg x119]) (c := ¬ x119 = 0) (t := 1313) (f := 1301) (st' := []) rfl rfl ⟨b0, trivial⟩ rfl (fun q => ?_) (fun q => ?_)
            · have h := ht q
              refine am_Wrun 3 (ps := []) (pc' := 23) (lv' := [(4, .inl (v4 + 3)), (6, .inl (x121)), (5, .inl (x119)), (0, .inr (.inl (some 999))), (1, .inr (.inl (some 0))), (2, .inr (.inl (some 69))), (3, .inr (.inl (some 80)))]) (st' := []) (M' := M124) rfl trivial ?_
              refine am_W_sub [3, 4, 5, 6, 0] rfl ?_
              exact tw_L_law_23 hX n (b + 1) (v4 + 3) M124 h
            · have h := hf q
              obtain ⟨c1_0, c2_0, h⟩ := h
              refine am_Wrun 6 (ps := [0 ≤ (0 : Int) ∧ (0 : Int) < 1, am_rg x121, (am_rl (M124 80 0) ∧ am_rl x121) ∨ (M124 80 0) = x121]) (pc' := 1308) (lv' := [(6, .inl (x121)), (5, .inl (x119)), (0, .inr (.inl (some 999))), (1, .inr (.inl (some 0))), (2, .inr (.inl (some 69))), (3, .inr (.inl (some 80))), (4, .inl (v4))]) (st' := [.inl (am_lci (M124 80 0) x121)]) (M' := M124) rfl ⟨⟨by decide, by decide⟩, c1_0, c2_0, trivial⟩ ?_
              obtain ⟨b0, ht, hf⟩ := h
              refine am_Wbr (P := [am_rg (am_lci (M124 80 0) x121)]) (c := (am_lci (M124 80 0) x121) = 0) (t := 1313) (f := 1311) (st' := []) rfl rfl ⟨b0, trivial⟩ rfl (fun q => ?_) (fun q => ?_)
              · have h := ht q
                refine am_Wrun 3 (ps := []) (pc' := 23) (lv' := [(4, .inl (v4 + 3)), (6, .inl (x121)), (5, .inl (x119)), (0, .inr (.inl (some 999))), (1, .inr (.inl (some 0))), (2, .inr (.inl (some 69))), (3, .inr (.inl (some 80)))]) (st' := []) (M' := M124) rfl trivial ?_
                refine am_W_sub [3, 4, 5, 6, 0] rfl ?_
                exact tw_L_law_23 hX n (b + 1) (v4 + 3) M124 h
              · have h := hf q
                refine am_Wrun 1 (ps := []) (pc' := 1312) (lv' := [(6, .inl (x121)), (5, .inl (x119)), (0, .inr (.inl (some 999))), (1, .inr (.inl (some 0))), (2, .inr (.inl (some 69))), (3, .inr (.inl (some 80))), (4, .inl (v4))]) (st' := [.inl (0)]) (M' := M124) rfl trivial ?_
                exact am_Wretz rfl rfl (Or.inl rfl) h
          · have h := hf q
            refine am_Wrun 1 (ps := []) (pc' := 1295) (lv' := [(6, .inl (x121)), (5, .inl (x119)), (0, .inr (.inl (some 999))), (1, .inr (.inl (some 0))), (2, .inr (.inl (some 69))), (3, .inr (.inl (some 80))), (4, .inl (v4))]) (st' := [.inl (0)]) (M' := M124) rfl trivial ?_
            exact am_Wretz rfl rfl (Or.inl rfl) h
        | 22, _, e2 =>
          have h := j22 e2
          refine ⟨_, 1316, rfl, rfl, ?_⟩
          obtain ⟨c0_0, h⟩ := h
          refine am_Wrun 6 (ps := [0 ≤ (v4 + 1) ∧ (v4 + 1) < scr.1]) (pc' := 1323) (lv' := [(0, .inr (.inl (some 999))), (1, .inr (.inl (some 0))), (2, .inr (.inl (some 69))), (3, .inr (.inl (some 80))), (4, .inl (v4))]) (st' := [.inl (scr.2 (v4 + 1)), .inr (.inl (some 0))]) (M' := M) rfl ⟨c0_0, trivial⟩ ?_
          obtain ⟨b0, ht, hf⟩ := h
          refine am_Wbr (P := [am_rg (scr.2 (v4 + 1))]) (c := (scr.2 (v4 + 1)) = 0) (t := 1330) (f := 1326) (st' := [.inr (.inl (some 0))]) rfl rfl ⟨b0, trivial⟩ rfl (fun q => ?_) (fun q => ?_)
          · have h := ht q
            refine am_Wrun 1 (ps := []) (pc' := 1331) (lv' := [(0, .inr (.inl (some 999))), (1, .inr (.inl (some 0))), (2, .inr (.inl (some 69))), (3, .inr (.inl (some 80))), (4, .inl (v4))]) (st' := [.inl (0), .inr (.inl (some 0))]) (M' := M) rfl trivial ?_
            refine am_W_sub [0, 1, 2, 3, 4] rfl ?_
            exact tj_L_law_1331 (tw_L_law_23 hX n) hX b v4 0 M h
          · have h := hf q
            refine am_Wrun 2 (ps := []) (pc' := 1331) (lv' := [(0, .inr (.inl (some 999))), (1, .inr (.inl (some 0))), (2, .inr (.inl (some 69))), (3, .inr (.inl (some 80))), (4, .inl (v4))]) (st' := [.inl (1), .inr (.inl (some 0))]) (M' := M) rfl trivial ?_
            refine am_W_sub [0, 1, 2, 3, 4] rfl ?_
            exact tj_L_law_1331 (tw_L_law_23 hX n) hX b v4 1 M h
        | 23, _, e2 =>
          have h := j23 e2
          refine ⟨_, 1358, rfl, rfl, ?_⟩
          obtain ⟨c0_0, h⟩ := h
          refine am_Wrun 7 (ps := [0 ≤ (v4 + 1) ∧ (v4 + 1) < scr.1]) (pc' := 1366) (lv' := [(0, .inr (.inl (some 999))), (1, .inr (.inl (some 0))), (2, .inr (.inl (some 69))), (3, .inr (.inl (some 80))), (4, .inl (v4))]) (st' := [.inr (.inl (some 80)), .inl (scr.2 (v4 + 1)), .inr (.inl (some 0))]) (M' := M) rfl ⟨c0_0, trivial⟩ ?_
          obtain ⟨hcap, h⟩ := h
          refine am_WcallS (y := 217) (n := 3) (f := 1369) (co := 1) (as := [.inr (.inl (some 0)), .inl (scr.2 (v4 + 1)), .inr (.inl (some 80))]) (st' := []) rfl rfl rfl rfl rfl rfl rfl rfl rfl hcap rfl (am_CC_le (Nat.le_of_ble_eq_true rfl) (tm_L_whyNot h)) (fun r M130 q => ?_) (fun _ _ q => q.elim)
          obtain ⟨x129, rfl, h⟩ := q
          obtain ⟨c0_0, h⟩ := h
          refine am_Wrun 7 (ps := [0 ≤ (v4 + 1) ∧ (v4 + 1) < scr.1]) (pc' := 1378) (lv' := [(5, .inl (x129)), (0, .inr (.inl (some 999))), (1, .inr (.inl (some 0))), (2, .inr (.inl (some 69))), (3, .inr (.inl (some 80))), (4, .inl (v4))]) (st' := [.inl (scr.2 (v4 + 1)), .inr (.inl (some 69))]) (M' := M130) rfl ⟨c0_0, trivial⟩ ?_
          obtain ⟨hbc, h⟩ := h
          refine am_WcallV (y := 186) (n := 2) (a := 69) (f := 1381) (as := [.inl (scr.2 (v4 + 1))]) (st' := []) rfl rfl rfl rfl rfl rfl rfl rfl rfl rfl hbc rfl (am_CC_le (Nat.le_of_ble_eq_true rfl) (tm_X6_whyNot h)) (fun r M132 q => ?_) (fun _ _ q => q.elim)
          obtain ⟨x131, rfl, h⟩ := q
          refine am_Wrun 2 (ps := []) (pc' := 1384) (lv' := [(6, .inl (x131)), (5, .inl (x129)), (0, .inr (.inl (some 999))), (1, .inr (.inl (some 0))), (2, .inr (.inl (some 69))), (3, .inr (.inl (some 80))), (4, .inl (v4))]) (st' := [.inr (.inl (some 69))]) (M' := M132) rfl trivial ?_
          obtain ⟨hbc, h⟩ := h
          refine am_WcallV (y := 109) (n := 1) (a := 69) (f := 1387) (as := []) (st' := []) rfl rfl rfl rfl rfl rfl rfl rfl rfl rfl hbc rfl (am_CC_le (Nat.le_of_ble_eq_true rfl) (tm_X6_thrown h)) (fun r M134 q => ?_) (fun _ _ q => q.elim)
          obtain ⟨x133, rfl, h⟩ := q
          refine am_Wrun 1 (ps := []) (pc' := 1389) (lv' := [(6, .inl (x131)), (5, .inl (x129)), (0, .inr (.inl (some 999))), (1, .inr (.inl (some 0))), (2, .inr (.inl (some 69))), (3, .inr (.inl (some 80))), (4, .inl (v4))]) (st' := [.inl (x129), .inl (x133)]) (M' := M134) rfl trivial ?_
          obtain ⟨b0, b1, ht, hf⟩ := h
          refine am_Wbr (P := [am_rg x133, am_rg x129]) (c := x133 = x129) (t := 1394) (f := 1392) (st' := []) rfl rfl ⟨b0, b1, trivial⟩ rfl (fun q => ?_) (fun q => ?_)
          · have h := ht q
            refine am_Wrun 1 (ps := []) (pc' := 1396) (lv' := [(6, .inl (x131)), (5, .inl (x129)), (0, .inr (.inl (some 999))), (1, .inr (.inl (some 0))), (2, .inr (.inl (some 69))), (3, .inr (.inl (some 80))), (4, .inl (v4))]) (st' := [.inl (x129)]) (M' := M134) rfl trivial ?_
            obtain ⟨b0, ht, hf⟩ := h
            refine am_Wbr (P := [am_rg x129]) (c := ¬ x129 = 0) (t := 1411) (f := 1399) (st' := []) rfl rfl ⟨b0, trivial⟩ rfl (fun q => ?_) (fun q => ?_)
            · have h := ht q
              refine am_Wrun 3 (ps := []) (pc' := 23) (lv' := [(4, .inl (v4 + 3)), (6, .inl (x131)), (5, .inl (x129)), (0, .inr (.inl (some 999))), (1, .inr (.inl (some 0))), (2, .inr (.inl (some 69))), (3, .inr (.inl (some 80)))]) (st' := []) (M' := M134) rfl trivial ?_
              refine am_W_sub [3, 4, 5, 6, 0] rfl ?_
              exact tw_L_law_23 hX n (b + 1) (v4 + 3) M134 h
            · have h := hf q
              obtain ⟨c1_0, c2_0, h⟩ := h
              refine am_Wrun 6 (ps := [0 ≤ (0 : Int) ∧ (0 : Int) < 1, am_rg x131, (am_rl (M134 80 0) ∧ am_rl x131) ∨ (M134 80 0) = x131]) (pc' := 1406) (lv' := [(6, .inl (x131)), (5, .inl (x129)), (0, .inr (.inl (some 999))), (1, .inr (.inl (some 0))), (2, .inr (.inl (some 69))), (3, .inr (.inl (some 80))), (4, .inl (v4))]) (st' := [.inl (am_lci (M134 80 0) x131)]) (M' := M134) rfl ⟨⟨by decide, by decide⟩, c1_0, c2_0, trivial⟩ ?_
              obtain ⟨b0, ht, hf⟩ := h
              refine am_Wbr (P := [am_rg (am_lci (M134 80 0) x131)]) (c := (am_lci (M134 80 0) x131) = 0) (t := 1411) (f := 1409) (st' := []) rfl rfl ⟨b0, trivial⟩ rfl (fun q => ?_) (fun q => ?_)
              · have h := ht q
                refine am_Wrun 3 (ps := []) (pc' := 23) (lv' := [(4, .inl (v4 + 3)), (6, .inl (x131)), (5, .inl (x129)), (0, .inr (.inl (some 999))), (1, .inr (.inl (some 0))), (2, .inr (.inl (some 69))), (3, .inr (.inl (some 80)))]) (st' := []) (M' := M134) rfl trivial ?_
                refine am_W_sub [3, 4, 5, 6, 0] rfl ?_
                exact tw_L_law_23 hX n (b + 1) (v4 + 3) M134 h
              · have h := hf q
                refine am_Wrun 1 (ps := []) (pc' := 1410) (lv' := [(6, .inl (x131)), (5, .inl (x129)), (0, .inr (.inl (some 999))), (1, .inr (.inl (some 0))), (2, .inr (.inl (some 69))), (3, .inr (.inl (some 80))), (4, .inl (v4))]) (st' := [.inl (0)]) (M' := M134) rfl trivial ?_
                exact am_Wretz rfl rfl (Or.inl rfl) h
          · have h := hf q
            refine am_Wrun 1 (ps := []) (pc' := 1393) (lv' := [(6, .inl (x131)), (5, .inl (x129)), (0, .inr (.inl (some 999))), (1, .inr (.inl (some 0))), (2, .inr (.inl (some 69))), (3, .inr (.inl (some 80))), (4, .inl (v4))]) (st' := [.inl (0)]) (M' := M134) rfl trivial ?_
            exact am_Wretz rfl rfl (Or.inl rfl) h
        | 24, _, e2 =>
          have h := j24 e2
          refine ⟨_, 1414, rfl, rfl, ?_⟩
          obtain ⟨c0_0, c1_0, h⟩ := h
          refine am_Wrun 12 (ps := [0 ≤ (v4 + 1) ∧ (v4 + 1) < scr.1, 0 ≤ (v4 + 2) ∧ (v4 + 2) < scr.1]) (pc' := 1428) (lv' := [(0, .inr (.inl (some 999))), (1, .inr (.inl (some 0))), (2, .inr (.inl (some 69))), (3, .inr (.inl (some 80))), (4, .inl (v4))]) (st' := [.inr (.inl (some 80)), .inl (scr.2 (v4 + 2)), .inl (scr.2 (v4 + 1)), .inr (.inl (some 0))]) (M' := M) rfl ⟨c0_0, c1_0, trivial⟩ ?_
          obtain ⟨hcap, h⟩ := h
          refine am_WcallS (y := 218) (n := 4) (f := 1431) (co := 1) (as := [.inr (.inl (some 0)), .inl (scr.2 (v4 + 1)), .inl (scr.2 (v4 + 2)), .inr (.inl (some 80))]) (st' := []) rfl rfl rfl rfl rfl rfl rfl rfl rfl hcap rfl (am_CC_le (Nat.le_of_ble_eq_true rfl) (tm_L_join h)) (fun r M136 q => ?_) (fun _ _ q => q.elim)
          obtain ⟨x135, rfl, h⟩ := q
          obtain ⟨c0_0, c1_0, h⟩ := h
          refine am_Wrun 12 (ps := [0 ≤ (v4 + 1) ∧ (v4 + 1) < scr.1, 0 ≤ (v4 + 2) ∧ (v4 + 2) < scr.1]) (pc' := 1446) (lv' := [(5, .inl (x135)), (0, .inr (.inl (some 999))), (1, .inr (.inl (some 0))), (2, .inr (.inl (some 69))), (3, .inr (.inl (some 80))), (4, .inl (v4))]) (st' := [.inl (scr.2 (v4 + 2)), .inl (scr.2 (v4 + 1)), .inr (.inl (some 69))]) (M' := M136) rfl ⟨c0_0, c1_0, trivial⟩ ?_
          obtain ⟨hbc, h⟩ := h
          refine am_WcallV (y := 187) (n := 3) (a := 69) (f := 1449) (as := [.inl (scr.2 (v4 + 1)), .inl (scr.2 (v4 + 2))]) (st' := []) rfl rfl rfl rfl rfl rfl rfl rfl rfl rfl hbc rfl (am_CC_le (Nat.le_of_ble_eq_true rfl) (tm_X6_join h)) (fun r M138 q => ?_) (fun _ _ q => q.elim)
          obtain ⟨x137, rfl, h⟩ := q
          refine am_Wrun 2 (ps := []) (pc' := 1452) (lv' := [(6, .inl (x137)), (5, .inl (x135)), (0, .inr (.inl (some 999))), (1, .inr (.inl (some 0))), (2, .inr (.inl (some 69))), (3, .inr (.inl (some 80))), (4, .inl (v4))]) (st' := [.inr (.inl (some 69))]) (M' := M138) rfl trivial ?_
          obtain ⟨hbc, h⟩ := h
          refine am_WcallV (y := 109) (n := 1) (a := 69) (f := 1455) (as := []) (st' := []) rfl rfl rfl rfl rfl rfl rfl rfl rfl rfl hbc rfl (am_CC_le (Nat.le_of_ble_eq_true rfl) (tm_X6_thrown h)) (fun r M140 q => ?_) (fun _ _ q => q.elim)
          obtain ⟨x139, rfl, h⟩ := q
          refine am_Wrun 1 (ps := []) (pc' := 1457) (lv' := [(6, .inl (x137)), (5, .inl (x135)), (0, .inr (.inl (some 999))), (1, .inr (.inl (some 0))), (2, .inr (.inl (some 69))), (3, .inr (.inl (some 80))), (4, .inl (v4))]) (st' := [.inl (x135), .inl (x139)]) (M' := M140) rfl trivial ?_
          obtain ⟨b0, b1, ht, hf⟩ := h
          refine am_Wbr (P := [am_rg x139, am_rg x135]) (c := x139 = x135) (t := 1462) (f := 1460) (st' := []) rfl rfl ⟨b0, b1, trivial⟩ rfl (fun q => ?_) (fun q => ?_)
          · have h := ht q
            refine am_Wrun 1 (ps := []) (pc' := 1464) (lv' := [(6, .inl (x137)), (5, .inl (x135)), (0, .inr (.inl (some 999))), (1, .inr (.inl (some 0))), (2, .inr (.inl (some 69))), (3, .inr (.inl (some 80))), (4, .inl (v4))]) (st' := [.inl (x135)]) (M' := M140) rfl trivial ?_
            obtain ⟨b0, ht, hf⟩ := h
            refine am_Wbr (P := [am_rg x135]) (c := ¬ x135 = 0) (t := 1479) (f := 1467) (st' := []) rfl rfl ⟨b0, trivial⟩ rfl (fun q => ?_) (fun q => ?_)
            · have h := ht q
              refine am_Wrun 3 (ps := []) (pc' := 23) (lv' := [(4, .inl (v4 + 3)), (6, .inl (x137)), (5, .inl (x135)), (0, .inr (.inl (some 999))), (1, .inr (.inl (some 0))), (2, .inr (.inl (some 69))), (3, .inr (.inl (some 80)))]) (st' := []) (M' := M140) rfl trivial ?_
              refine am_W_sub [3, 4, 5, 6, 0] rfl ?_
              exact tw_L_law_23 hX n (b + 1) (v4 + 3) M140 h
            · have h := hf q
              obtain ⟨c1_0, c2_0, h⟩ := h
              refine am_Wrun 6 (ps := [0 ≤ (0 : Int) ∧ (0 : Int) < 1, am_rg x137, (am_rl (M140 80 0) ∧ am_rl x137) ∨ (M140 80 0) = x137]) (pc' := 1474) (lv' := [(6, .inl (x137)), (5, .inl (x135)), (0, .inr (.inl (some 999))), (1, .inr (.inl (some 0))), (2, .inr (.inl (some 69))), (3, .inr (.inl (some 80))), (4, .inl (v4))]) (st' := [.inl (am_lci (M140 80 0) x137)]) (M' := M140) rfl ⟨⟨by decide, by decide⟩, c1_0, c2_0, trivial⟩ ?_
              obtain ⟨b0, ht, hf⟩ := h
              refine am_Wbr (P := [am_rg (am_lci (M140 80 0) x137)]) (c := (am_lci (M140 80 0) x137) = 0) (t := 1479) (f := 1477) (st' := []) rfl rfl ⟨b0, trivial⟩ rfl (fun q => ?_) (fun q => ?_)
              · have h := ht q
                refine am_Wrun 3 (ps := []) (pc' := 23) (lv' := [(4, .inl (v4 + 3)), (6, .inl (x137)), (5, .inl (x135)), (0, .inr (.inl (some 999))), (1, .inr (.inl (some 0))), (2, .inr (.inl (some 69))), (3, .inr (.inl (some 80)))]) (st' := []) (M' := M140) rfl trivial ?_
                refine am_W_sub [3, 4, 5, 6, 0] rfl ?_
                exact tw_L_law_23 hX n (b + 1) (v4 + 3) M140 h
              · have h := hf q
                refine am_Wrun 1 (ps := []) (pc' := 1478) (lv' := [(6, .inl (x137)), (5, .inl (x135)), (0, .inr (.inl (some 999))), (1, .inr (.inl (some 0))), (2, .inr (.inl (some 69))), (3, .inr (.inl (some 80))), (4, .inl (v4))]) (st' := [.inl (0)]) (M' := M140) rfl trivial ?_
                exact am_Wretz rfl rfl (Or.inl rfl) h
          · have h := hf q
            refine am_Wrun 1 (ps := []) (pc' := 1461) (lv' := [(6, .inl (x137)), (5, .inl (x135)), (0, .inr (.inl (some 999))), (1, .inr (.inl (some 0))), (2, .inr (.inl (some 69))), (3, .inr (.inl (some 80))), (4, .inl (v4))]) (st' := [.inl (0)]) (M' := M140) rfl trivial ?_
            exact am_Wretz rfl rfl (Or.inl rfl) h
        | 25, _, e2 =>
          have h := j25 e2
          refine ⟨_, 1482, rfl, rfl, ?_⟩
          obtain ⟨c0_0, h⟩ := h
          refine am_Wrun 7 (ps := [0 ≤ (v4 + 1) ∧ (v4 + 1) < scr.1]) (pc' := 1490) (lv' := [(0, .inr (.inl (some 999))), (1, .inr (.inl (some 0))), (2, .inr (.inl (some 69))), (3, .inr (.inl (some 80))), (4, .inl (v4))]) (st' := [.inr (.inl (some 80)), .inl (scr.2 (v4 + 1)), .inr (.inl (some 0))]) (M' := M) rfl ⟨c0_0, trivial⟩ ?_
          obtain ⟨hcap, h⟩ := h
          refine am_WcallS (y := 219) (n := 3) (f := 1493) (co := 1) (as := [.inr (.inl (some 0)), .inl (scr.2 (v4 + 1)), .inr (.inl (some 80))]) (st' := []) rfl rfl rfl rfl rfl rfl rfl rfl rfl hcap rfl (am_CC_le (Nat.le_of_ble_eq_true rfl) (tm_L_ifThinned h)) (fun r M142 q => ?_) (fun _ _ q => q.elim)
          obtain ⟨x141, rfl, h⟩ := q
          obtain ⟨c0_0, h⟩ := h
          refine am_Wrun 7 (ps := [0 ≤ (v4 + 1) ∧ (v4 + 1) < scr.1]) (pc' := 1502) (lv' := [(5, .inl (x141)), (0, .inr (.inl (some 999))), (1, .inr (.inl (some 0))), (2, .inr (.inl (some 69))), (3, .inr (.inl (some 80))), (4, .inl (v4))]) (st' := [.inl (scr.2 (v4 + 1)), .inr (.inl (some 69))]) (M' := M142) rfl ⟨c0_0, trivial⟩ ?_
          obtain ⟨hbc, h⟩ := h
          refine am_WcallV (y := 188) (n := 2) (a := 69) (f := 1505) (as := [.inl (scr.2 (v4 + 1))]) (st' := []) rfl rfl rfl rfl rfl rfl rfl rfl rfl rfl hbc rfl (am_CC_le (Nat.le_of_ble_eq_true rfl) (tm_X6_ifThinned h)) (fun r M144 q => ?_) (fun _ _ q => q.elim)
          obtain ⟨x143, rfl, h⟩ := q
          refine am_Wrun 2 (ps := []) (pc' := 1508) (lv' := [(6, .inl (x143)), (5, .inl (x141)), (0, .inr (.inl (some 999))), (1, .inr (.inl (some 0))), (2, .inr (.inl (some 69))), (3, .inr (.inl (some 80))), (4, .inl (v4))]) (st' := [.inr (.inl (some 69))]) (M' := M144) rfl trivial ?_
          obtain ⟨hbc, h⟩ := h
          refine am_WcallV (y := 109) (n := 1) (a := 69) (f := 1511) (as := []) (st' := []) rfl rfl rfl rfl rfl rfl rfl rfl rfl rfl hbc rfl (am_CC_le (Nat.le_of_ble_eq_true rfl) (tm_X6_thrown h)) (fun r M146 q => ?_) (fun _ _ q => q.elim)
          obtain ⟨x145, rfl, h⟩ := q
          refine am_Wrun 1 (ps := []) (pc' := 1513) (lv' := [(6, .inl (x143)), (5, .inl (x141)), (0, .inr (.inl (some 999))), (1, .inr (.inl (some 0))), (2, .inr (.inl (some 69))), (3, .inr (.inl (some 80))), (4, .inl (v4))]) (st' := [.inl (x141), .inl (x145)]) (M' := M146) rfl trivial ?_
          obtain ⟨b0, b1, ht, hf⟩ := h
          refine am_Wbr (P := [am_rg x145, am_rg x141]) (c := x145 = x141) (t := 1518) (f := 1516) (st' := []) rfl rfl ⟨b0, b1, trivial⟩ rfl (fun q => ?_) (fun q => ?_)
          · have h := ht q
            refine am_Wrun 1 (ps := []) (pc' := 1520) (lv' := [(6, .inl (x143)), (5, .inl (x141)), (0, .inr (.inl (some 999))), (1, .inr (.inl (some 0))), (2, .inr (.inl (some 69))), (3, .inr (.inl (some 80))), (4, .inl (v4))]) (st' := [.inl (x141)]) (M' := M146) rfl trivial ?_
            obtain ⟨b0, ht, hf⟩ := h
            refine am_Wbr (P := [am_rg x141]) (c := ¬ x141 = 0) (t := 1535) (f := 1523) (st' := []) rfl rfl ⟨b0, trivial⟩ rfl (fun q => ?_) (fun q => ?_)
            · have h := ht q
              refine am_Wrun 3 (ps := []) (pc' := 23) (lv' := [(4, .inl (v4 + 3)), (6, .inl (x143)), (5, .inl (x141)), (0, .inr (.inl (some 999))), (1, .inr (.inl (some 0))), (2, .inr (.inl (some 69))), (3, .inr (.inl (some 80)))]) (st' := []) (M' := M146) rfl trivial ?_
              refine am_W_sub [3, 4, 5, 6, 0] rfl ?_
              exact tw_L_law_23 hX n (b + 1) (v4 + 3) M146 h
            · have h := hf q
              obtain ⟨c1_0, c2_0, h⟩ := h
              refine am_Wrun 6 (ps := [0 ≤ (0 : Int) ∧ (0 : Int) < 1, am_rg x143, (am_rl (M146 80 0) ∧ am_rl x143) ∨ (M146 80 0) = x143]) (pc' := 1530) (lv' := [(6, .inl (x143)), (5, .inl (x141)), (0, .inr (.inl (some 999))), (1, .inr (.inl (some 0))), (2, .inr (.inl (some 69))), (3, .inr (.inl (some 80))), (4, .inl (v4))]) (st' := [.inl (am_lci (M146 80 0) x143)]) (M' := M146) rfl ⟨⟨by decide, by decide⟩, c1_0, c2_0, trivial⟩ ?_
              obtain ⟨b0, ht, hf⟩ := h
              refine am_Wbr (P := [am_rg (am_lci (M146 80 0) x143)]) (c := (am_lci (M146 80 0) x143) = 0) (t := 1535) (f := 1533) (st' := []) rfl rfl ⟨b0, trivial⟩ rfl (fun q => ?_) (fun q => ?_)
              · have h := ht q
                refine am_Wrun 3 (ps := []) (pc' := 23) (lv' := [(4, .inl (v4 + 3)), (6, .inl (x143)), (5, .inl (x141)), (0, .inr (.inl (some 999))), (1, .inr (.inl (some 0))), (2, .inr (.inl (some 69))), (3, .inr (.inl (some 80)))]) (st' := []) (M' := M146) rfl trivial ?_
                refine am_W_sub [3, 4, 5, 6, 0] rfl ?_
                exact tw_L_law_23 hX n (b + 1) (v4 + 3) M146 h
              · have h := hf q
                refine am_Wrun 1 (ps := []) (pc' := 1534) (lv' := [(6, .inl (x143)), (5, .inl (x141)), (0, .inr (.inl (some 999))), (1, .inr (.inl (some 0))), (2, .inr (.inl (some 69))), (3, .inr (.inl (some 80))), (4, .inl (v4))]) (st' := [.inl (0)]) (M' := M146) rfl trivial ?_
                exact am_Wretz rfl rfl (Or.inl rfl) h
          · have h := hf q
            refine am_Wrun 1 (ps := []) (pc' := 1517) (lv' := [(6, .inl (x143)), (5, .inl (x141)), (0, .inr (.inl (some 999))), (1, .inr (.inl (some 0))), (2, .inr (.inl (some 69))), (3, .inr (.inl (some 80))), (4, .inl (v4))]) (st' := [.inl (0)]) (M' := M146) rfl trivial ?_
            exact am_Wretz rfl rfl (Or.inl rfl) h
        | 26, _, e2 =>
          have h := j26 e2
          refine ⟨_, 1538, rfl, rfl, ?_⟩
          obtain ⟨c0_0, h⟩ := h
          refine am_Wrun 7 (ps := [0 ≤ (v4 + 1) ∧ (v4 + 1) < scr.1]) (pc' := 1546) (lv' := [(0, .inr (.inl (some 999))), (1, .inr (.inl (some 0))), (2, .inr (.inl (some 69))), (3, .inr (.inl (some 80))), (4, .inl (v4))]) (st' := [.inr (.inl (some 80)), .inl (scr.2 (v4 + 1)), .inr (.inl (some 0))]) (M' := M) rfl ⟨c0_0, trivial⟩ ?_
          obtain ⟨hcap, h⟩ := h
          refine am_WcallS (y := 220) (n := 3) (f := 1549) (co := 1) (as := [.inr (.inl (some 0)), .inl (scr.2 (v4 + 1)), .inr (.inl (some 80))]) (st' := []) rfl rfl rfl rfl rfl rfl rfl rfl rfl hcap rfl (am_CC_le (Nat.le_of_ble_eq_true rfl) (tm_L_leastOath h)) (fun r M148 q => ?_) (fun _ _ q => q.elim)
          obtain ⟨x147, rfl, h⟩ := q
          obtain ⟨c0_0, h⟩ := h
          refine am_Wrun 7 (ps := [0 ≤ (v4 + 1) ∧ (v4 + 1) < scr.1]) (pc' := 1558) (lv' := [(5, .inl (x147)), (0, .inr (.inl (some 999))), (1, .inr (.inl (some 0))), (2, .inr (.inl (some 69))), (3, .inr (.inl (some 80))), (4, .inl (v4))]) (st' := [.inl (scr.2 (v4 + 1)), .inr (.inl (some 69))]) (M' := M148) rfl ⟨c0_0, trivial⟩ ?_
          obtain ⟨hbc, h⟩ := h
          refine am_WcallV (y := 189) (n := 2) (a := 69) (f := 1561) (as := [.inl (scr.2 (v4 + 1))]) (st' := []) rfl rfl rfl rfl rfl rfl rfl rfl rfl rfl hbc rfl (am_CC_le (Nat.le_of_ble_eq_true rfl) (tm_X6_leastOath h)) (fun r M150 q => ?_) (fun _ _ q => q.elim)
          obtain ⟨x149, rfl, h⟩ := q
          refine am_Wrun 2 (ps := []) (pc' := 1564) (lv' := [(6, .inl (x149)), (5, .inl (x147)), (0, .inr (.inl (some 999))), (1, .inr (.inl (some 0))), (2, .inr (.inl (some 69))), (3, .inr (.inl (some 80))), (4, .inl (v4))]) (st' := [.inr (.inl (some 69))]) (M' := M150) rfl trivial ?_
          obtain ⟨hbc, h⟩ := h
          refine am_WcallV (y := 109) (n := 1) (a := 69) (f := 1567) (as := []) (st' := []) rfl rfl rfl rfl rfl rfl rfl rfl rfl rfl hbc rfl (am_CC_le (Nat.le_of_ble_eq_true rfl) (tm_X6_thrown h)) (fun r M152 q => ?_) (fun _ _ q => q.elim)
          obtain ⟨x151, rfl, h⟩ := q
          refine am_Wrun 1 (ps := []) (pc' := 1569) (lv' := [(6, .inl (x149)), (5, .inl (x147)), (0, .inr (.inl (some 999))), (1, .inr (.inl (some 0))), (2, .inr (.inl (some 69))), (3, .inr (.inl (some 80))), (4, .inl (v4))]) (st' := [.inl (x147), .inl (x151)]) (M' := M152) rfl trivial ?_
          obtain ⟨b0, b1, ht, hf⟩ := h
          refine am_Wbr (P := [am_rg x151, am_rg x147]) (c := x151 = x147) (t := 1574) (f := 1572) (st' := []) rfl rfl ⟨b0, b1, trivial⟩ rfl (fun q => ?_) (fun q => ?_)
          · have h := ht q
            refine am_Wrun 1 (ps := []) (pc' := 1576) (lv' := [(6, .inl (x149)), (5, .inl (x147)), (0, .inr (.inl (some 999))), (1, .inr (.inl (some 0))), (2, .inr (.inl (some 69))), (3, .inr (.inl (some 80))), (4, .inl (v4))]) (st' := [.inl (x147)]) (M' := M152) rfl trivial ?_
            obtain ⟨b0, ht, hf⟩ := h
            refine am_Wbr (P := [am_rg x147]) (c := ¬ x147 = 0) (t := 1591) (f := 1579) (st' := []) rfl rfl ⟨b0, trivial⟩ rfl (fun q => ?_) (fun q => ?_)
            · have h := ht q
              refine am_Wrun 3 (ps := []) (pc' := 23) (lv' := [(4, .inl (v4 + 3)), (6, .inl (x149)), (5, .inl (x147)), (0, .inr (.inl (some 999))), (1, .inr (.inl (some 0))), (2, .inr (.inl (some 69))), (3, .inr (.inl (some 80)))]) (st' := []) (M' := M152) rfl trivial ?_
              refine am_W_sub [3, 4, 5, 6, 0] rfl ?_
              exact tw_L_law_23 hX n (b + 1) (v4 + 3) M152 h
            · have h := hf q
              obtain ⟨c1_0, c2_0, h⟩ := h
              refine am_Wrun 6 (ps := [0 ≤ (0 : Int) ∧ (0 : Int) < 1, am_rg x149, (am_rl (M152 80 0) ∧ am_rl x149) ∨ (M152 80 0) = x149]) (pc' := 1586) (lv' := [(6, .inl (x149)), (5, .inl (x147)), (0, .inr (.inl (some 999))), (1, .inr (.inl (some 0))), (2, .inr (.inl (some 69))), (3, .inr (.inl (some 80))), (4, .inl (v4))]) (st' := [.inl (am_lci (M152 80 0) x149)]) (M' := M152) rfl ⟨⟨by decide, by decide⟩, c1_0, c2_0, trivial⟩ ?_
              obtain ⟨b0, ht, hf⟩ := h
              refine am_Wbr (P := [am_rg (am_lci (M152 80 0) x149)]) (c := (am_lci (M152 80 0) x149) = 0) (t := 1591) (f := 1589) (st' := []) rfl rfl ⟨b0, trivial⟩ rfl (fun q => ?_) (fun q => ?_)
              · have h := ht q
                refine am_Wrun 3 (ps := []) (pc' := 23) (lv' := [(4, .inl (v4 + 3)), (6, .inl (x149)), (5, .inl (x147)), (0, .inr (.inl (some 999))), (1, .inr (.inl (some 0))), (2, .inr (.inl (some 69))), (3, .inr (.inl (some 80)))]) (st' := []) (M' := M152) rfl trivial ?_
                refine am_W_sub [3, 4, 5, 6, 0] rfl ?_
                exact tw_L_law_23 hX n (b + 1) (v4 + 3) M152 h
              · have h := hf q
                refine am_Wrun 1 (ps := []) (pc' := 1590) (lv' := [(6, .inl (x149)), (5, .inl (x147)), (0, .inr (.inl (some 999))), (1, .inr (.inl (some 0))), (2, .inr (.inl (some 69))), (3, .inr (.inl (some 80))), (4, .inl (v4))]) (st' := [.inl (0)]) (M' := M152) rfl trivial ?_
                exact am_Wretz rfl rfl (Or.inl rfl) h
          · have h := hf q
            refine am_Wrun 1 (ps := []) (pc' := 1573) (lv' := [(6, .inl (x149)), (5, .inl (x147)), (0, .inr (.inl (some 999))), (1, .inr (.inl (some 0))), (2, .inr (.inl (some 69))), (3, .inr (.inl (some 80))), (4, .inl (v4))]) (st' := [.inl (0)]) (M' := M152) rfl trivial ?_
            exact am_Wretz rfl rfl (Or.inl rfl) h
        | 27, _, e2 =>
          have h := j27 e2
          refine ⟨_, 1594, rfl, rfl, ?_⟩
          obtain ⟨c0_0, h⟩ := h
          refine am_Wrun 7 (ps := [0 ≤ (v4 + 1) ∧ (v4 + 1) < scr.1]) (pc' := 1602) (lv' := [(0, .inr (.inl (some 999))), (1, .inr (.inl (some 0))), (2, .inr (.inl (some 69))), (3, .inr (.inl (some 80))), (4, .inl (v4))]) (st' := [.inr (.inl (some 80)), .inl (scr.2 (v4 + 1)), .inr (.inl (some 0))]) (M' := M) rfl ⟨c0_0, trivial⟩ ?_
          obtain ⟨hcap, h⟩ := h
          refine am_WcallS (y := 221) (n := 3) (f := 1605) (co := 1) (as := [.inr (.inl (some 0)), .inl (scr.2 (v4 + 1)), .inr (.inl (some 80))]) (st' := []) rfl rfl rfl rfl rfl rfl rfl rfl rfl hcap rfl (am_CC_le (Nat.le_of_ble_eq_true rfl) (tm_L_cheapest h)) (fun r M154 q => ?_) (fun _ _ q => q.elim)
          obtain ⟨x153, rfl, h⟩ := q
          obtain ⟨c0_0, h⟩ := h
          refine am_Wrun 7 (ps := [0 ≤ (v4 + 1) ∧ (v4 + 1) < scr.1]) (pc' := 1614) (lv' := [(5, .inl (x153)), (0, .inr (.inl (some 999))), (1, .inr (.inl (some 0))), (2, .inr (.inl (some 69))), (3, .inr (.inl (some 80))), (4, .inl (v4))]) (st' := [.inl (scr.2 (v4 + 1)), .inr (.inl (some 69))]) (M' := M154) rfl ⟨c0_0, trivial⟩ ?_
          obtain ⟨hbc, h⟩ := h
          refine am_WcallV (y := 192) (n := 2) (a := 69) (f := 1617) (as := [.inl (scr.2 (v4 + 1))]) (st' := []) rfl rfl rfl rfl rfl rfl rfl rfl rfl rfl hbc rfl (am_CC_le (Nat.le_of_ble_eq_true rfl) (tm_X6_cheapest h)) (fun r M156 q => ?_) (fun _ _ q => q.elim)
          obtain ⟨x155, rfl, h⟩ := q
          refine am_Wrun 2 (ps := []) (pc' := 1620) (lv' := [(6, .inl (x155)), (5, .inl (x153)), (0, .inr (.inl (some 999))), (1, .inr (.inl (some 0))), (2, .inr (.inl (some 69))), (3, .inr (.inl (some 80))), (4, .inl (v4))]) (st' := [.inr (.inl (some 69))]) (M' := M156) rfl trivial ?_
          obtain ⟨hbc, h⟩ := h
          refine am_WcallV (y := 109) (n := 1) (a := 69) (f := 1623) (as := []) (st' := []) rfl rfl rfl rfl rfl rfl rfl rfl rfl rfl hbc rfl (am_CC_le (Nat.le_of_ble_eq_true rfl) (tm_X6_thrown h)) (fun r M158 q => ?_) (fun _ _ q => q.elim)
          obtain ⟨x157, rfl, h⟩ := q
          refine am_Wrun 1 (ps := []) (pc' := 1625) (lv' := [(6, .inl (x155)), (5, .inl (x153)), (0, .inr (.inl (some 999))), (1, .inr (.inl (some 0))), (2, .inr (.inl (some 69))), (3, .inr (.inl (some 80))), (4, .inl (v4))]) (st' := [.inl (x153), .inl (x157)]) (M' := M158) rfl trivial ?_
          obtain ⟨b0, b1, ht, hf⟩ := h
          refine am_Wbr (P := [am_rg x157, am_rg x153]) (c := x157 = x153) (t := 1630) (f := 1628) (st' := []) rfl rfl ⟨b0, b1, trivial⟩ rfl (fun q => ?_) (fun q => ?_)
          · have h := ht q
            refine am_Wrun 1 (ps := []) (pc' := 1632) (lv' := [(6, .inl (x155)), (5, .inl (x153)), (0, .inr (.inl (some 999))), (1, .inr (.inl (some 0))), (2, .inr (.inl (some 69))), (3, .inr (.inl (some 80))), (4, .inl (v4))]) (st' := [.inl (x153)]) (M' := M158) rfl trivial ?_
            obtain ⟨b0, ht, hf⟩ := h
            refine am_Wbr (P := [am_rg x153]) (c := ¬ x153 = 0) (t := 1647) (f := 1635) (st' := []) rfl rfl ⟨b0, trivial⟩ rfl (fun q => ?_) (fun q => ?_)
            · have h := ht q
              refine am_Wrun 3 (ps := []) (pc' := 23) (lv' := [(4, .inl (v4 + 3)), (6, .inl (x155)), (5, .inl (x153)), (0, .inr (.inl (some 999))), (1, .inr (.inl (some 0))), (2, .inr (.inl (some 69))), (3, .inr (.inl (some 80)))]) (st' := []) (M' := M158) rfl trivial ?_
              refine am_W_sub [3, 4, 5, 6, 0] rfl ?_
              exact tw_L_law_23 hX n (b + 1) (v4 + 3) M158 h
            · have h := hf q
              obtain ⟨c1_0, c2_0, h⟩ := h
              refine am_Wrun 6 (ps := [0 ≤ (0 : Int) ∧ (0 : Int) < 1, am_rg x155, (am_rl (M158 80 0) ∧ am_rl x155) ∨ (M158 80 0) = x155]) (pc' := 1642) (lv' := [(6, .inl (x155)), (5, .inl (x153)), (0, .inr (.inl (some 999))), (1, .inr (.inl (some 0))), (2, .inr (.inl (some 69))), (3, .inr (.inl (some 80))), (4, .inl (v4))]) (st' := [.inl (am_lci (M158 80 0) x155)]) (M' := M158) rfl ⟨⟨by decide, by decide⟩, c1_0, c2_0, trivial⟩ ?_
              obtain ⟨b0, ht, hf⟩ := h
              refine am_Wbr (P := [am_rg (am_lci (M158 80 0) x155)]) (c := (am_lci (M158 80 0) x155) = 0) (t := 1647) (f := 1645) (st' := []) rfl rfl ⟨b0, trivial⟩ rfl (fun q => ?_) (fun q => ?_)
              · have h := ht q
                refine am_Wrun 3 (ps := []) (pc' := 23) (lv' := [(4, .inl (v4 + 3)), (6, .inl (x155)), (5, .inl (x153)), (0, .inr (.inl (some 999))), (1, .inr (.inl (some 0))), (2, .inr (.inl (some 69))), (3, .inr (.inl (some 80)))]) (st' := []) (M' := M158) rfl trivial ?_
                refine am_W_sub [3, 4, 5, 6, 0] rfl ?_
                exact tw_L_law_23 hX n (b + 1) (v4 + 3) M158 h
              · have h := hf q
                refine am_Wrun 1 (ps := []) (pc' := 1646) (lv' := [(6, .inl (x155)), (5, .inl (x153)), (0, .inr (.inl (some 999))), (1, .inr (.inl (some 0))), (2, .inr (.inl (some 69))), (3, .inr (.inl (some 80))), (4, .inl (v4))]) (st' := [.inl (0)]) (M' := M158) rfl trivial ?_
                exact am_Wretz rfl rfl (Or.inl rfl) h
          · have h := hf q
            refine am_Wrun 1 (ps := []) (pc' := 1629) (lv' := [(6, .inl (x155)), (5, .inl (x153)), (0, .inr (.inl (some 999))), (1, .inr (.inl (some 0))), (2, .inr (.inl (some 69))), (3, .inr (.inl (some 80))), (4, .inl (v4))]) (st' := [.inl (0)]) (M' := M158) rfl trivial ?_
            exact am_Wretz rfl rfl (Or.inl rfl) h
        | 28, _, e2 =>
          have h := j28 e2
          refine ⟨_, 1650, rfl, rfl, ?_⟩
          refine am_Wrun 1 (ps := []) (pc' := 1651) (lv' := [(0, .inr (.inl (some 999))), (1, .inr (.inl (some 0))), (2, .inr (.inl (some 69))), (3, .inr (.inl (some 80))), (4, .inl (v4))]) (st' := [.inr (.inl (some 0))]) (M' := M) rfl trivial ?_
          obtain ⟨hbc, h⟩ := h
          refine am_WcallV (y := 31) (n := 1) (a := 0) (f := 1654) (as := []) (st' := []) rfl rfl rfl rfl rfl rfl rfl rfl rfl rfl hbc rfl (am_CC_le (Nat.le_of_ble_eq_true rfl) (tm_X5_droppedShare h)) (fun r M160 q => ?_) (fun _ _ q => q.elim)
          obtain ⟨x159, rfl, h⟩ := q
          refine am_Wrun 2 (ps := []) (pc' := 1657) (lv' := [(5, .inr (.inr (.inr (x159)))), (0, .inr (.inl (some 999))), (1, .inr (.inl (some 0))), (2, .inr (.inl (some 69))), (3, .inr (.inl (some 80))), (4, .inl (v4))]) (st' := [.inr (.inl (some 69))]) (M' := M160) rfl trivial ?_
          obtain ⟨hbc, h⟩ := h
          refine am_WcallV (y := 194) (n := 1) (a := 69) (f := 1660) (as := []) (st' := []) rfl rfl rfl rfl rfl rfl rfl rfl rfl rfl hbc rfl (am_CC_le (Nat.le_of_ble_eq_true rfl) (tm_X6_droppedShare h)) (fun r M162 q => ?_) (fun _ _ q => q.elim)
          obtain ⟨x161, rfl, h⟩ := q
          refine am_Wrun 4 (ps := []) (pc' := 1667) (lv' := [(7, .inr (.inr (.inr (x161)))), (5, .inr (.inr (.inr (x159)))), (0, .inr (.inl (some 999))), (1, .inr (.inl (some 0))), (2, .inr (.inl (some 69))), (3, .inr (.inl (some 80))), (4, .inl (v4))]) (st' := [.inl ((Op.cmpValue (FP.dcmp x159 x161) .l).toInt)]) (M' := M162) rfl trivial ?_
          obtain ⟨b0, ht, hf⟩ := h
          refine am_Wbr (P := [am_rg ((Op.cmpValue (FP.dcmp x159 x161) .l).toInt)]) (c := ((Op.cmpValue (FP.dcmp x159 x161) .l).toInt) = 0) (t := 1688) (f := 1670) (st' := []) rfl rfl ⟨b0, trivial⟩ rfl (fun q => ?_) (fun q => ?_)
          · have h := ht q
            refine am_Wrun 3 (ps := []) (pc' := 23) (lv' := [(4, .inl (v4 + 3)), (7, .inr (.inr (.inr (x161)))), (5, .inr (.inr (.inr (x159)))), (0, .inr (.inl (some 999))), (1, .inr (.inl (some 0))), (2, .inr (.inl (some 69))), (3, .inr (.inl (some 80)))]) (st' := []) (M' := M162) rfl trivial ?_
            refine am_W_sub [3, 4, 5, 6, 0] rfl ?_
            exact tw_L_law_23 hX n b (v4 + 3) M162 h
          · have h := hf q
            refine am_Wrun 3 (ps := []) (pc' := 1675) (lv' := [(7, .inr (.inr (.inr (x161)))), (5, .inr (.inr (.inr (x159)))), (0, .inr (.inl (some 999))), (1, .inr (.inl (some 0))), (2, .inr (.inl (some 69))), (3, .inr (.inl (some 80))), (4, .inl (v4))]) (st' := [.inl ((Op.cmpValue (FP.dcmp x159 x159) .l).toInt)]) (M' := M162) rfl trivial ?_
            obtain ⟨b0, ht, hf⟩ := h
            refine am_Wbr (P := [am_rg ((Op.cmpValue (FP.dcmp x159 x159) .l).toInt)]) (c := ((Op.cmpValue (FP.dcmp x159 x159) .l).toInt) = 0) (t := 1686) (f := 1678) (st' := []) rfl rfl ⟨b0, trivial⟩ rfl (fun q => ?_) (fun q => ?_)
            · have h := ht q
              refine am_Wrun 1 (ps := []) (pc' := 1687) (lv' := [(7, .inr (.inr (.inr (x161)))), (5, .inr (.inr (.inr (x159)))), (0, .inr (.inl (some 999))), (1, .inr (.inl (some 0))), (2, .inr (.inl (some 69))), (3, .inr (.inl (some 80))), (4, .inl (v4))]) (st' := [.inl (0)]) (M' := M162) rfl trivial ?_
              exact am_Wretz rfl rfl (Or.inl rfl) h
            · have h := hf q
              refine am_Wrun 3 (ps := []) (pc' := 1683) (lv' := [(7, .inr (.inr (.inr (x161)))), (5, .inr (.inr (.inr (x159)))), (0, .inr (.inl (some 999))), (1, .inr (.inl (some 0))), (2, .inr (.inl (some 69))), (3, .inr (.inl (some 80))), (4, .inl (v4))]) (st' := [.inl ((Op.cmpValue (FP.dcmp x161 x161) .l).toInt)]) (M' := M162) rfl trivial ?_
              obtain ⟨b0, ht, hf⟩ := h
              refine am_Wbr (P := [am_rg ((Op.cmpValue (FP.dcmp x161 x161) .l).toInt)]) (c := ¬ ((Op.cmpValue (FP.dcmp x161 x161) .l).toInt) = 0) (t := 1688) (f := 1686) (st' := []) rfl rfl ⟨b0, trivial⟩ rfl (fun q => ?_) (fun q => ?_)
              · have h := ht q
                refine am_Wrun 3 (ps := []) (pc' := 23) (lv' := [(4, .inl (v4 + 3)), (7, .inr (.inr (.inr (x161)))), (5, .inr (.inr (.inr (x159)))), (0, .inr (.inl (some 999))), (1, .inr (.inl (some 0))), (2, .inr (.inl (some 69))), (3, .inr (.inl (some 80)))]) (st' := []) (M' := M162) rfl trivial ?_
                refine am_W_sub [3, 4, 5, 6, 0] rfl ?_
                exact tw_L_law_23 hX n b (v4 + 3) M162 h
              · have h := hf q
                refine am_Wrun 1 (ps := []) (pc' := 1687) (lv' := [(7, .inr (.inr (.inr (x161)))), (5, .inr (.inr (.inr (x159)))), (0, .inr (.inl (some 999))), (1, .inr (.inl (some 0))), (2, .inr (.inl (some 69))), (3, .inr (.inl (some 80))), (4, .inl (v4))]) (st' := [.inl (0)]) (M' := M162) rfl trivial ?_
                exact am_Wretz rfl rfl (Or.inl rfl) h
        | 29, _, e2 =>
          have h := j29 e2
          refine ⟨_, 1691, rfl, rfl, ?_⟩
          refine am_Wrun 1 (ps := []) (pc' := 1692) (lv' := [(0, .inr (.inl (some 999))), (1, .inr (.inl (some 0))), (2, .inr (.inl (some 69))), (3, .inr (.inl (some 80))), (4, .inl (v4))]) (st' := [.inr (.inl (some 0))]) (M' := M) rfl trivial ?_
          obtain ⟨hbc, h⟩ := h
          refine am_WcallV (y := 32) (n := 1) (a := 0) (f := 1695) (as := []) (st' := []) rfl rfl rfl rfl rfl rfl rfl rfl rfl rfl hbc rfl (am_CC_le (Nat.le_of_ble_eq_true rfl) (tm_X5_digest h)) (fun r M164 q => ?_) (fun E M q => hX _ _ q)
          obtain ⟨x163, rfl, h⟩ := q
          refine am_Wrun 1 (ps := []) (pc' := 1696) (lv' := [(0, .inr (.inl (some 999))), (1, .inr (.inl (some 0))), (2, .inr (.inl (some 69))), (3, .inr (.inl (some 80))), (4, .inl (v4))]) (st' := [.inr (.inl (some 69)), .inr (.inr (.inl (x163)))]) (M' := M164) rfl trivial ?_
          obtain ⟨hbc, h⟩ := h
          refine am_WcallV (y := 196) (n := 1) (a := 69) (f := 1699) (as := []) (st' := [.inr (.inr (.inl (x163)))]) rfl rfl rfl rfl rfl rfl rfl rfl rfl rfl hbc rfl (am_CC_le (Nat.le_of_ble_eq_true rfl) (tm_X6_digest h)) (fun r M166 q => ?_) (fun _ _ q => q.elim)
          obtain ⟨x165, rfl, h⟩ := q
          obtain ⟨c0_0, h⟩ := h
          refine am_Wrun 1 (ps := [(am_rl x163 ∧ am_rl x165) ∨ x163 = x165]) (pc' := 1700) (lv' := [(0, .inr (.inl (some 999))), (1, .inr (.inl (some 0))), (2, .inr (.inl (some 69))), (3, .inr (.inl (some 80))), (4, .inl (v4))]) (st' := [.inl (am_lci x163 x165)]) (M' := M166) rfl ⟨c0_0, trivial⟩ ?_
          obtain ⟨b0, ht, hf⟩ := h
          refine am_Wbr (P := [am_rg (am_lci x163 x165)]) (c := (am_lci x163 x165) = 0) (t := 1705) (f := 1703) (st' := []) rfl rfl ⟨b0, trivial⟩ rfl (fun q => ?_) (fun q => ?_)
          · have h := ht q
            refine am_Wrun 2 (ps := []) (pc' := 23) (lv' := [(4, .inl (v4 + 3)), (0, .inr (.inl (some 999))), (1, .inr (.inl (some 0))), (2, .inr (.inl (some 69))), (3, .inr (.inl (some 80)))]) (st' := []) (M' := M166) rfl trivial ?_
            refine am_W_sub [1, 2, 3, 4, 0] rfl ?_
            exact tw_L_law_23 hX n b (v4 + 3) M166 h
          · have h := hf q
            refine am_Wrun 1 (ps := []) (pc' := 1704) (lv' := [(0, .inr (.inl (some 999))), (1, .inr (.inl (some 0))), (2, .inr (.inl (some 69))), (3, .inr (.inl (some 80))), (4, .inl (v4))]) (st' := [.inl (0)]) (M' := M166) rfl trivial ?_
            exact am_Wretz rfl rfl (Or.inl rfl) h
        | n + 30, hj, _ => exact absurd hj (by omega)
