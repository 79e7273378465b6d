/-! The small machine: whole numbers are numbers (Int), a reference is the place of its cell in one fixed layout, a memory says what number stands in which slot of which cell. -/
abbrev am_V : Type := Int ⊕ (Option Nat ⊕ (Int ⊕ UInt64))
abbrev am_M : Type := Nat → Int → Int
abbrev am_L : Type := List (Nat × am_V)
/-- a cell of the layout: an int array of a length, a long array, an array of references (all known), an object (its class, for each slot the reference that always stands there, or none for a number) -/
abbrev am_E : Type := (Nat ⊕ Nat) ⊕ (List Nat ⊕ (Nat × List (Option Nat)))
abbrev am_C : Type := Nat × Nat × am_L × List am_V × am_M
abbrev am_Q : Type := Option am_V → am_M → Prop
abbrev am_X : Type := Nat → am_M → Prop
def am_rg (x : Int) : Prop := -2147483648 ≤ x ∧ x ≤ 2147483647
def am_rl (x : Int) : Prop := -9223372036854775808 ≤ x ∧ x ≤ 9223372036854775807
def am_cat (v : am_V) : Nat := match v with
  | .inl _ => 1
  | .inr (.inl _) => 1
  | .inr (.inr _) => 2
def am_al {α : Type} (k : Nat) : List (Nat × α) → Option α
  | [] => none
  | q :: r => match Nat.beq q.1 k with
    | true => some q.2
    | false => am_al k r
def am_kl (i : Nat) (lv : am_L) : am_L := lv.filter (fun q => !(q.1 == i) && !(q.1 + 1 == i && am_cat q.2 == 2))
def am_kl2 (i : Nat) (lv : am_L) : am_L := lv.filter (fun q => !(q.1 == i) && (!(q.1 == i + 1) && !(q.1 + 1 == i && am_cat q.2 == 2)))
def am_st (nL i : Nat) (v : am_V) (lv : am_L) : Option am_L := match Nat.blt i nL with
  | true => some ((i, v) :: am_kl i lv)
  | false => none
def am_st2 (nL i : Nat) (v : am_V) (lv : am_L) : Option am_L := match Nat.blt (i + 1) nL with
  | true => some ((i, v) :: am_kl2 i lv)
  | false => none
def am_up (M : am_M) (k : Nat) (j x : Int) : am_M := fun k' j' => if k' = k ∧ j' = j then x else M k' j'
/-- the first n numbers of one row into another -/
def am_cp (M : am_M) (k0 k1 : Nat) (n : Int) : am_M := fun k j => if k = k1 ∧ 0 ≤ j ∧ j < n then M k0 j else M k j
def am_tg (pc : Nat) (off : Int) : Option Nat := match (pc : Int) + off with
  | .ofNat t => some t
  | .negSucc _ => none
def am_ldi (i : Nat) (lv : am_L) : Option Int := match am_al i lv with
  | some (.inl x) => some x
  | _ => none
def am_lda (i : Nat) (lv : am_L) : Option (Option Nat) := match am_al i lv with
  | some (.inr (.inl r)) => some r
  | _ => none
def am_ldl (i : Nat) (lv : am_L) : Option Int := match am_al i lv with
  | some (.inr (.inr (.inl x))) => some x
  | _ => none
def am_ldd (i : Nat) (lv : am_L) : Option UInt64 := match am_al i lv with
  | some (.inr (.inr (.inr x))) => some x
  | _ => none
abbrev am_R : Type := Option (List Prop × Nat × am_L × List am_V × am_M)
def am_lci (x y : Int) : Int := if y < x then 1 else if x = y then 0 else -1
def am_sti (nL i npc : Nat) (lv : am_L) (st : List am_V) (M : am_M) : am_R := match st with
  | .inl x :: r => (am_st nL i (.inl x) lv).map (fun lv' => ([], npc, lv', r, M))
  | _ => none
def am_sta (nL i npc : Nat) (lv : am_L) (st : List am_V) (M : am_M) : am_R := match st with
  | .inr (.inl x) :: r => (am_st nL i (.inr (.inl x)) lv).map (fun lv' => ([], npc, lv', r, M))
  | _ => none
def am_stl (nL i npc : Nat) (lv : am_L) (st : List am_V) (M : am_M) : am_R := match st with
  | .inr (.inr (.inl x)) :: r => (am_st2 nL i (.inr (.inr (.inl x))) lv).map (fun lv' => ([], npc, lv', r, M))
  | _ => none
def am_std (nL i npc : Nat) (lv : am_L) (st : List am_V) (M : am_M) : am_R := match st with
  | .inr (.inr (.inr x)) :: r => (am_st2 nL i (.inr (.inr (.inr x))) lv).map (fun lv' => ([], npc, lv', r, M))
  | _ => none
def am_guard (n : Nat) (f : Nat → Option (Instr × Nat)) (pc : Nat) : Option (Instr × Nat) := match Nat.blt pc n with
  | true => f pc
  | false => none
def am_lf (pc k : Nat) (i : Instr) (len : Nat) : Option (Instr × Nat) := match Nat.beq pc k with
  | true => some (i, len)
  | false => none
