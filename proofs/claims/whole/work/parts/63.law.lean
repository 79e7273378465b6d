/-! the law's loop -/
theorem rl0 (x : Int) : am_rg (am_lci x x) := by rw [lci_0]; unfold am_rg; omega
theorem i31 (x : Int) : 0 ≤ (Int32.ofInt x &&& Int32.ofInt 31).toInt ∧ (Int32.ofInt x &&& Int32.ofInt 31).toInt ≤ 31 := by
  have e : (Int32.ofInt x &&& Int32.ofInt 31).toInt = ((Int32.ofInt x).toBitVec &&& 31#32).toInt := rfl
  have h1 : ((Int32.ofInt x).toBitVec &&& 31#32).toNat ≤ 31 := by
    rw [BitVec.toNat_and]
    exact Nat.and_le_right
  have h2 := BitVec.toInt_eq_toNat_of_lt (x := (Int32.ofInt x).toBitVec &&& 31#32) (by omega)
  rw [e, h2]
  omega
theorem law_ok {Q : Int → am_M → Prop} {X : am_X} {scr : Int × (Int → Int)} {cap : Nat} (hcap : 512 ≤ cap) (hl : 0 ≤ scr.1 ∧ scr.1 ≤ 1536) (hsc : ∀ i, 0 ≤ i → i < scr.1 → am_rg (scr.2 i)) (hQ : ∀ M, Q 1 M) : ∀ (r : Nat) (b k : Nat) (M : am_M), scr.1 ≤ 3 * ((k : Int) + r) + 2 → b ≤ k → (k : Int) ≤ 512 → Rel (k : Int) M → wl_L_law_23 Q X scr cap (r + 1) b (3 * (k : Int)) M := by
  intro r
  induction r with
  | zero =>
    intro b k M hr hbk hk h
    exact ⟨by unfold am_rg; omega, by unfold am_rg; omega, fun _ => hQ M, fun e => absurd (by omega) e⟩
  | succ r ih =>
    intro b k M hr hbk hk h
    refine ⟨by unfold am_rg; omega, by unfold am_rg; omega, fun _ => hQ M, fun e => ?_⟩
    have hc : (k : Int) + 1 ≤ 1000 := by omega
    have hb : b + 1 ≤ cap := by omega
    have hb0 : b ≤ cap := by omega
    have i0 : 0 ≤ 3 * (k : Int) ∧ 3 * (k : Int) < scr.1 := by omega
    have i1 : 0 ≤ 3 * (k : Int) + 1 ∧ 3 * (k : Int) + 1 < scr.1 := by omega
    have i2 : 0 ≤ 3 * (k : Int) + 2 ∧ 3 * (k : Int) + 2 < scr.1 := by omega
    have r1 := hsc _ i1.1 i1.2
    have r2 := hsc _ i2.1 i2.2
    have m31 := i31 (scr.2 (3 * (k : Int)))
    have up : ∀ M', Rel (k : Int) M' → Rel ((k : Int) + 1) M' := fun M' R => Rel_c R (by omega) hc
    have nx : ∀ M', Rel ((k : Int) + 1) M' → wl_L_law_23 Q X scr cap (r + 1) (b + 1) (3 * (k : Int) + 3) M' := fun M' R => by
      have := ih (b + 1) (k + 1) M' (by omega) (by omega) (by omega) (by rw [show ((k + 1 : Nat) : Int) = (k : Int) + 1 by omega]; exact R)
      rw [show 3 * ((k + 1 : Nat) : Int) = 3 * (k : Int) + 3 by omega] at this
      exact this
    have nx0 : ∀ M', Rel ((k : Int) + 1) M' → wl_L_law_23 Q X scr cap (r + 1) b (3 * (k : Int) + 3) M' := fun M' R => by
      have := ih b (k + 1) M' (by omega) (by omega) (by omega) (by rw [show ((k + 1 : Nat) : Int) = (k : Int) + 1 by omega]; exact R)
      rw [show 3 * ((k + 1 : Nat) : Int) = 3 * (k : Int) + 3 by omega] at this
      exact this
    refine ⟨i0, by unfold am_rg; omega, fun _ => nx0 M (up M h), fun _ => ⟨i1, i2, hb, lw_add h hc r1 r2 (fun x M1 w => ⟨i1, i2, hb, w⟩) (fun x y M' R z5 x3 z80 => ⟨hb, lw_end z5 x3 z80 (nx M' R)⟩)⟩,
      fun _ => ⟨i1, i2, hb, lw_correct h hc r1 r2 (fun x M1 w => ⟨i1, i2, hb, w⟩) (fun x y M' R z5 x3 z80 => ⟨hb, lw_end z5 x3 z80 (nx M' R)⟩)⟩,
      fun _ => ⟨i1, hb, lw_drop h hc r1 (fun x M1 w => ⟨i1, hb, w⟩) (fun x y M' R z5 x3 z80 => ⟨hb, lw_end z5 x3 z80 (nx M' R)⟩)⟩,
      fun _ => ⟨i1, hb, lw_keep h hc r1 (fun x M1 w => ⟨i1, hb, w⟩) (fun x y M' R z5 x3 z80 => ⟨hb, lw_end z5 x3 z80 (nx M' R)⟩)⟩,
      fun _ => ⟨hb0, lw_mend h hc (fun x M1 w => ⟨hb0, w⟩) (fun x M' R rx => ⟨rx, rx, fun _ => nx0 M' R, fun e => absurd rfl e⟩)⟩,
      fun _ => ⟨i1, hb, lw_thin h hc r1 (fun x M1 w => ⟨i1, hb, w⟩) (fun x y M' R z5 x3 z80 => ⟨hb, lw_end z5 x3 z80 (nx M' R)⟩)⟩,
      fun _ => ⟨i1, hb, lw_tear h hc r1 (fun x M1 w => ⟨i1, hb, w⟩) (fun x y M' R z5 x3 z80 => ⟨hb, lw_end z5 x3 z80 (nx M' R)⟩)⟩,
      fun _ => ⟨i1, i2, hb, lw_set h hc r1 r2 (fun x M1 w => ⟨i1, i2, hb, w⟩) (fun x y M' R z5 x3 z80 => ⟨hb, lw_end z5 x3 z80 (nx M' R)⟩)⟩,
      fun _ => ⟨i1, i2, hb, lw_note h hc r1 r2 (fun x M1 w => ⟨i1, i2, hb, w⟩) (fun x y M' R z5 x3 z80 => ⟨hb, lw_end z5 x3 z80 (nx M' R)⟩)⟩,
      fun _ => ⟨hb0, lw_strike h hc (fun x M1 w => ⟨hb0, w⟩) (fun x M' R rx => ⟨rx, rx, fun _ => nx0 M' R, fun e => absurd rfl e⟩)⟩,
      fun _ => ⟨i1, hb, lw_append h r1 (fun x M1 w => ⟨i1, hb, w⟩) (fun x y M' R z5 x3 z80 => ⟨hb, lw_end z5 x3 z80 (nx M' (up M' R))⟩)⟩,
      fun _ => ⟨hb0, lw_clearBuffer h (fun x M1 w => ⟨hb0, w⟩) (fun x M' R rx => ⟨rx, rx, fun _ => nx0 M' (up M' R), fun e => absurd rfl e⟩)⟩,
      fun _ => ⟨hb0, lw_firstError h (fun x M1 w => ⟨hb0, w⟩) (fun x M' R rx => ⟨rx, rx, fun _ => nx0 M' (up M' R), fun e => absurd rfl e⟩)⟩,
      fun _ => ⟨hb, lw_addAll h hc (fun x M1 w => ⟨hb, w⟩) (fun x y M' R z5 x3 z80 => ⟨hb, lw_end z5 x3 z80 (nx M' R)⟩)⟩,
      fun _ => ⟨hb, lw_undo h (fun x M1 w => ⟨hb, w⟩) (fun x y M' R z5 x3 z80 => ⟨hb, lw_end z5 x3 z80 (nx M' (up M' R))⟩)⟩,
      fun _ => ⟨i1, i2, hb, lw_point h r1 r2 (fun x M1 w => ⟨i1, i2, hb, w⟩) (fun x y M' R z5 x3 z80 => ⟨hb, lw_end z5 x3 z80 (nx M' (up M' R))⟩)⟩,
      fun _ => ⟨i1, i2, hb, lw_error h r1 r2 (fun x M1 w => ⟨i1, i2, hb, w⟩) (fun x y M' R z5 x3 z80 => ⟨hb, lw_end z5 x3 z80 (nx M' (up M' R))⟩)⟩,
      fun _ => ⟨i1, i2, hb, lw_reading h r1 r2 (fun x M1 w => ⟨i1, i2, hb, w⟩) (fun x y M' R z5 x3 z80 => ⟨hb, lw_end z5 x3 z80 (nx M' (up M' R))⟩)⟩,
      fun _ => ⟨i1, i2, hb, lw_stretch h r1 r2 (fun x M1 w => ⟨i1, i2, hb, w⟩) (fun x y M' R z5 x3 z80 => ⟨hb, lw_end z5 x3 z80 (nx M' (up M' R))⟩)⟩,
      fun _ => ⟨i1, i2, hb, lw_noteAt h r1 r2 (fun x M1 w => ⟨i1, i2, hb, w⟩) (fun x y M' R z5 x3 z80 => ⟨hb, lw_end z5 x3 z80 (nx M' (up M' R))⟩)⟩,
      fun _ => ⟨i1, hb, lw_count h r1 (fun x M1 w => ⟨i1, hb, w⟩) (fun x y M' R z5 x3 z80 => ⟨hb, lw_end z5 x3 z80 (nx M' (up M' R))⟩)⟩,
      fun _ => ⟨i1, hb, lw_setting h r1 (fun x M1 w => ⟨i1, hb, w⟩) (fun x y M' R z5 x3 z80 => ⟨hb, lw_end z5 x3 z80 (nx M' (up M' R))⟩)⟩,
      fun _ => ⟨i1, r1, fun e => ⟨hb0, lw_area h (Or.inl rfl) (fun x M1 w => ⟨i1, r1, fun _ => ⟨hb0, w⟩, fun e2 => absurd e e2⟩) (fun x M' R => ⟨Or.inr rfl, rl0 x, fun _ => nx0 M' (up M' R), fun e => absurd (lci_0 x) e⟩)⟩, fun e => ⟨hb0, lw_area h (Or.inr rfl) (fun x M1 w => ⟨i1, r1, fun e2 => absurd e2 e, fun _ => ⟨hb0, w⟩⟩) (fun x M' R => ⟨Or.inr rfl, rl0 x, fun _ => nx0 M' (up M' R), fun e => absurd (lci_0 x) e⟩)⟩⟩,
      fun _ => ⟨i1, hb, lw_whyNot h r1 (fun x M1 w => ⟨i1, hb, w⟩) (fun x y M' R z5 x3 z80 => ⟨hb, lw_end z5 x3 z80 (nx M' (up M' R))⟩)⟩,
      fun _ => ⟨i1, i2, hb, lw_join h r1 r2 (fun x M1 w => ⟨i1, i2, hb, w⟩) (fun x y M' R z5 x3 z80 => ⟨hb, lw_end z5 x3 z80 (nx M' (up M' R))⟩)⟩,
      fun _ => ⟨i1, hb, lw_ifThinned h r1 (fun x M1 w => ⟨i1, hb, w⟩) (fun x y M' R z5 x3 z80 => ⟨hb, lw_end z5 x3 z80 (nx M' (up M' R))⟩)⟩,
      fun _ => ⟨i1, hb, lw_leastOath h r1 (fun x M1 w => ⟨i1, hb, w⟩) (fun x y M' R z5 x3 z80 => ⟨hb, lw_end z5 x3 z80 (nx M' (up M' R))⟩)⟩,
      fun _ => ⟨i1, hb, lw_cheapest h r1 (fun x M1 w => ⟨i1, hb, w⟩) (fun x y M' R z5 x3 z80 => ⟨hb, lw_end z5 x3 z80 (nx M' (up M' R))⟩)⟩,
      fun _ => ⟨hb0, lw_droppedShare h (fun x M1 w => ⟨hb0, w⟩) (fun x M' R z => ⟨by rw [z]; unfold am_rg; omega, fun _ => nx0 M' (up M' R), fun e => absurd z e⟩)⟩,
      fun _ => ⟨hb0, lw_digest h (fun x M1 w => ⟨hb0, w⟩) (fun x M' R => ⟨Or.inr rfl, rl0 x, fun _ => nx0 M' (up M' R), fun e => absurd (lci_0 x) e⟩)⟩⟩
