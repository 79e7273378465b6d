/-! The first memory's cells, the world at the law's entry, whole_start (written by wip/whole/startgen.py). -/
def rho (b : Nat) (as : List Nat) : Nat → Nat := fun a => match Nat.beq a 999 with
  | true => b
  | false => as.getD a 0
abbrev fset : Nat → Int32 := upd (upd (fun _ => 0) (0 : Int32).toNatClampNeg 10) (1 : Int32).toNatClampNeg 100
abbrev frow (a b c d e f : Nat) : Nat → Option Nat := va_up (va_up (va_up (va_up (va_up (va_up (fun _ => none) (0 : Int32).toNatClampNeg (some a)) (1 : Int32).toNatClampNeg (some b)) (2 : Int32).toNatClampNeg (some c)) (3 : Int32).toNatClampNeg (some d)) (4 : Int32).toNatClampNeg (some e)) (5 : Int32).toNatClampNeg (some f)
theorem f_set : fset = fun j : Nat => Int32.ofInt (M0 6 (j : Int)) := by
  funext j
  match j with
  | 0 => rfl
  | 1 => rfl
  | j + 2 =>
    have h : M0 6 ((j + 2 : Nat) : Int) = 0 := by
      show (if ((j + 2 : Nat) : Int) = 0 then (10 : Int) else if ((j + 2 : Nat) : Int) = 1 then 100 else 0) = 0
      rw [if_neg (by omega), if_neg (by omega)]
    rw [h]
    rfl
/-- which row of ints has what at first: 1 settings, 2 q, 3 lows, 4 highs, 0 nothing -/
def sk0 (a : Nat) : Nat := match Nat.beq a 6 || (Nat.beq a 21 || (Nat.beq a 29 || (Nat.beq a 37 || (Nat.beq a 45 || (Nat.beq a 53 || Nat.beq a 61))))) with
  | true => 1
  | false => 0
def sp0 (k : Nat) : Nat → Int32 := match k with
  | 1 => fset
  | _ => fun _ => 0
theorem M0_n {a : Nat} (h : a ≠ 6 ∧ a ≠ 21 ∧ a ≠ 29 ∧ a ≠ 37 ∧ a ≠ 45 ∧ a ≠ 53 ∧ a ≠ 61) (j : Int) : M0 a j = 0 := by
  obtain ⟨h1, h2, h3, h4, h5, h6, h7⟩ := h
  unfold M0
  split <;> first | exact absurd rfl ‹_› | rfl
theorem sk0_0 {a : Nat} (h : sk0 a = 0) : a ≠ 6 ∧ a ≠ 21 ∧ a ≠ 29 ∧ a ≠ 37 ∧ a ≠ 45 ∧ a ≠ 53 ∧ a ≠ 61 := by
  refine ⟨?_, ?_, ?_, ?_, ?_, ?_, ?_⟩ <;> (intro e; subst e; exact absurd h (by decide))
theorem sp0_e (a : Nat) : (fun j : Nat => Int32.ofInt (M0 a (j : Int))) = sp0 (sk0 a) := by
  by_cases h : a ≠ 6 ∧ a ≠ 21 ∧ a ≠ 29 ∧ a ≠ 37 ∧ a ≠ 45 ∧ a ≠ 53 ∧ a ≠ 61
  · have e : sk0 a = 0 := by
      obtain ⟨h1, h2, h3, h4, h5, h6, h7⟩ := h
      have g : ∀ k, a ≠ k → Nat.beq a k = false := fun k hk => by
        cases hb : Nat.beq a k with
        | false => rfl
        | true => exact absurd (Nat.eq_of_beq_eq_true hb) hk
      unfold sk0
      rw [g 6 h1, g 21 h2, g 29 h3, g 37 h4, g 45 h5, g 53 h6, g 61 h7]
      rfl
    rw [e]
    funext j
    rw [M0_n h]
    rfl
  · have h' : a = 6 ∨ a = 21 ∨ a = 29 ∨ a = 37 ∨ a = 45 ∨ a = 53 ∨ a = 61 := by omega
    rcases h' with rfl | rfl | rfl | rfl | rfl | rfl | rfl
    · exact f_set.symm
    · exact f_set.symm
    · exact f_set.symm
    · exact f_set.symm
    · exact f_set.symm
    · exact f_set.symm
    · exact f_set.symm
def rw6 (l : List Nat) : Nat → Option Nat := match l with
  | [a, b, c, d, e, f] => frow a b c d e f
  | l => fun j => l[j]?
theorem rw6_e : ∀ l : List Nat, (fun j : Nat => l[j]?) = rw6 l
  | [] => rfl
  | [_] => rfl
  | [_, _] => rfl
  | [_, _, _] => rfl
  | [_, _, _, _] => rfl
  | [_, _, _, _, _] => rfl
  | [a, b, c, d, e, f] => by
    funext j
    match j with
    | 0 => rfl
    | 1 => rfl
    | 2 => rfl
    | 3 => rfl
    | 4 => rfl
    | 5 => rfl
    | j + 6 => rfl
  | _ :: _ :: _ :: _ :: _ :: _ :: _ :: _ => rfl
def e0 (ρ : Nat → Nat) (cA : Nat → ClassId) (a : Nat) (e : am_E) : va_E := match e with
  | .inl (.inl n) => .inl (cA 0, n, .inl (sp0 (sk0 a)))
  | .inl (.inr n) => .inl (cA 1, n, .inr (.inl (fun _ => 0)))
  | .inr (.inl rs) => .inl (cA 2, rs.length, .inr (.inr (.inr (.inr (rw6 (rs.map ρ))))))
  | .inr (.inr (ci, fk)) => .inr (ci, fk.map (fun o => match o with
    | none => .int 0
    | some r => .ref (ρ r)))
def ok0 (a : Nat) (e : am_E) : Bool := match e with
  | .inl (.inl _) => true
  | .inr (.inl _) => true
  | _ => Nat.beq (sk0 a) 0
theorem ent_0 {ρ : Nat → Nat} {cA : Nat → ClassId} {a : Nat} {e : am_E} (h : ok0 a e = true) : am_ent ρ cA M0 a e = e0 ρ cA a e := by
  rcases e with (n | n) | rs | ⟨ci, fk⟩
  · show (Sum.inl (cA 0, (n, Sum.inl (fun j : Nat => Int32.ofInt (M0 a (j : Int))))) : va_E) = Sum.inl (cA 0, n, Sum.inl (sp0 (sk0 a)))
    rw [sp0_e]
  · have hz := M0_n (sk0_0 (Nat.eq_of_beq_eq_true h))
    show (Sum.inl (cA 1, (n, Sum.inr (Sum.inl (fun j : Nat => Int64.ofInt (M0 a (j : Int)))))) : va_E) = Sum.inl (cA 1, n, Sum.inr (Sum.inl (fun _ => 0)))
    have e : (fun j : Nat => Int64.ofInt (M0 a (j : Int))) = fun _ => 0 := by
      funext j
      rw [hz]
      rfl
    rw [e]
  · show (Sum.inl (cA 2, (rs.length, Sum.inr (Sum.inr (Sum.inr (Sum.inr (fun j : Nat => (rs[j]?).map ρ)))))) : va_E) = Sum.inl (cA 2, rs.length, Sum.inr (Sum.inr (Sum.inr (Sum.inr (rw6 (rs.map ρ))))))
    have e : (fun j : Nat => (rs[j]?).map ρ) = rw6 (rs.map ρ) := by
      rw [← rw6_e]
      funext j
      rw [List.getElem?_map]
    rw [e]
  · have hz := M0_n (sk0_0 (Nat.eq_of_beq_eq_true h))
    show (Sum.inr (ci, am_fs ρ M0 a fk) : va_E) = Sum.inr (ci, fk.map (fun o => match o with
      | none => .int 0
      | some r => .ref (ρ r)))
    have e : am_fs ρ M0 a fk = fk.map (fun o => match o with
      | none => .int 0
      | some r => .ref (ρ r)) := by
      unfold am_fs
      refine List.ext_getElem? (fun k => ?_)
      rw [List.getElem?_mapIdx, List.getElem?_map]
      cases fk[k]? with
      | none => rfl
      | some o =>
        cases o with
        | none =>
          show some (Value.int (Int32.ofInt (M0 a (k : Int)))) = some (Value.int 0)
          rw [hz]
          rfl
        | some r => rfl
    rw [e]
def wl0 (ρ : Nat → Nat) (cA : Nat → ClassId) : Nat → List am_E → va_W
  | _, [] => []
  | a, e :: r => (ρ a, e0 ρ cA a e) :: wl0 ρ cA (a + 1) r
def ol0 : Nat → List am_E → Bool
  | _, [] => true
  | a, e :: r => ok0 a e && ol0 (a + 1) r
theorem ol0_0 : ol0 0 tb_lay = true := by decide +kernel
theorem wl0_e (ρ : Nat → Nat) (cA : Nat → ClassId) : ∀ (L : List am_E) (n : Nat), ol0 n L = true → ∀ k, (wl0 ρ cA n L)[k]? = (L[k]?).map (fun e => (ρ (n + k), am_ent ρ cA M0 (n + k) e))
  | [], _, _, k => by simp [wl0]
  | e :: r, n, h, k => by
    unfold ol0 at h
    rw [Bool.and_eq_true] at h
    cases k with
    | zero =>
      show some (ρ n, e0 ρ cA n e) = some (ρ (n + 0), am_ent ρ cA M0 (n + 0) e)
      rw [← ent_0 h.1]
      rfl
    | succ k =>
      show (wl0 ρ cA (n + 1) r)[k]? = (r[k]?).map (fun e => (ρ (n + (k + 1)), am_ent ρ cA M0 (n + (k + 1)) e))
      rw [wl0_e ρ cA r (n + 1) h.2 k, show n + 1 + k = n + (k + 1) by omega]
theorem ws_0 (ρ : Nat → Nat) (cA : Nat → ClassId) : am_ws ρ cA M0 = wl0 ρ cA 0 tb_lay := by
  refine List.ext_getElem? (fun k => ?_)
  rw [wl0_e ρ cA tb_lay 0 ol0_0 k]
  unfold am_ws
  rw [List.getElem?_mapIdx, Nat.zero_add]
set_option maxHeartbeats 4000000 in
set_option maxRecDepth 100000 in
theorem ws_1 (ρ : Nat → Nat) (cA : Nat → ClassId) : am_ws ρ cA M0 = [(ρ 0, .inr (5, [.ref (ρ 1), .ref (ρ 9), .ref (ρ 10), .ref (ρ 14), .ref (ρ 64), .ref (ρ 68)])), (ρ 1, .inr (2, [.ref (ρ 2), .ref (ρ 3), .ref (ρ 4), .ref (ρ 5), .ref (ρ 6), .ref (ρ 7), .ref (ρ 8), .int 0, .int 0, .int 0, .int 0])), (ρ 2, zi cA 60), (ρ 3, zi cA 60), (ρ 4, zi cA 60), (ρ 5, zi cA 60), (ρ 6, .inl (cA 0, 3, .inl (fset))), (ρ 7, zi cA 8), (ρ 8, zi cA 8), (ρ 9, .inr (1, [.ref (ρ 1), .int 0, .int 0])), (ρ 10, .inr (4, [.ref (ρ 1), .ref (ρ 9), .ref (ρ 11), .ref (ρ 12), .ref (ρ 13), .int 0])), (ρ 11, zi cA 60), (ρ 12, zi cA 60), (ρ 13, zi cA 3600), (ρ 14, .inr (0, [.ref (ρ 15), .int 0, .int 0])), (ρ 15, .inl (cA 2, 6, .inr (.inr (.inr (.inr (frow (ρ 16) (ρ 24) (ρ 32) (ρ 40) (ρ 48) (ρ 56))))))), (ρ 16, .inr (2, [.ref (ρ 17), .ref (ρ 18), .ref (ρ 19), .ref (ρ 20), .ref (ρ 21), .ref (ρ 22), .ref (ρ 23), .int 0, .int 0, .int 0, .int 0])), (ρ 17, zi cA 60), (ρ 18, zi cA 60), (ρ 19, zi cA 60), (ρ 20, zi cA 60), (ρ 21, .inl (cA 0, 3, .inl (fset))), (ρ 22, zi cA 8), (ρ 23, zi cA 8), (ρ 24, .inr (2, [.ref (ρ 25), .ref (ρ 26), .ref (ρ 27), .ref (ρ 28), .ref (ρ 29), .ref (ρ 30), .ref (ρ 31), .int 0, .int 0, .int 0, .int 0])), (ρ 25, zi cA 60), (ρ 26, zi cA 60), (ρ 27, zi cA 60), (ρ 28, zi cA 60), (ρ 29, .inl (cA 0, 3, .inl (fset))), (ρ 30, zi cA 8), (ρ 31, zi cA 8), (ρ 32, .inr (2, [.ref (ρ 33), .ref (ρ 34), .ref (ρ 35), .ref (ρ 36), .ref (ρ 37), .ref (ρ 38), .ref (ρ 39), .int 0, .int 0, .int 0, .int 0])), (ρ 33, zi cA 60), (ρ 34, zi cA 60), (ρ 35, zi cA 60), (ρ 36, zi cA 60), (ρ 37, .inl (cA 0, 3, .inl (fset))), (ρ 38, zi cA 8), (ρ 39, zi cA 8), (ρ 40, .inr (2, [.ref (ρ 41), .ref (ρ 42), .ref (ρ 43), .ref (ρ 44), .ref (ρ 45), .ref (ρ 46), .ref (ρ 47), .int 0, .int 0, .int 0, .int 0])), (ρ 41, zi cA 60), (ρ 42, zi cA 60), (ρ 43, zi cA 60), (ρ 44, zi cA 60), (ρ 45, .inl (cA 0, 3, .inl (fset))), (ρ 46, zi cA 8), (ρ 47, zi cA 8), (ρ 48, .inr (2, [.ref (ρ 49), .ref (ρ 50), .ref (ρ 51), .ref (ρ 52), .ref (ρ 53), .ref (ρ 54), .ref (ρ 55), .int 0, .int 0, .int 0, .int 0])), (ρ 49, zi cA 60), (ρ 50, zi cA 60), (ρ 51, zi cA 60), (ρ 52, zi cA 60), (ρ 53, .inl (cA 0, 3, .inl (fset))), (ρ 54, zi cA 8), (ρ 55, zi cA 8), (ρ 56, .inr (2, [.ref (ρ 57), .ref (ρ 58), .ref (ρ 59), .ref (ρ 60), .ref (ρ 61), .ref (ρ 62), .ref (ρ 63), .int 0, .int 0, .int 0, .int 0])), (ρ 57, zi cA 60), (ρ 58, zi cA 60), (ρ 59, zi cA 60), (ρ 60, zi cA 60), (ρ 61, .inl (cA 0, 3, .inl (fset))), (ρ 62, zi cA 8), (ρ 63, zi cA 8), (ρ 64, .inr (3, [.ref (ρ 65), .int 0, .ref (ρ 66), .ref (ρ 67), .int 0])), (ρ 65, zi cA 60), (ρ 66, zi cA 60), (ρ 67, zi cA 60), (ρ 68, zi cA 60)] := by
  rw [ws_0]
  rfl
