/-! What the tables are checked for. -/
def am_GL : List Cond := lw_tbl.filter goodWord
def tb_at (pos : Nat) (w : Cond) : Bool := (match lw_tbl[pos]? with | some w' => decide (w' = w) | none => false) && goodWord w
theorem tb_at_in {pos : Nat} {w : Cond} (h : tb_at pos w = true) : w ∈ am_GL := by
  unfold tb_at at h
  rw [Bool.and_eq_true] at h
  obtain ⟨h1, h2⟩ := h
  cases hp : lw_tbl[pos]? with
  | none => rw [hp] at h1; cases h1
  | some w' =>
    rw [hp] at h1
    have e : w' = w := of_decide_eq_true h1
    subst e
    exact List.mem_filter.mpr ⟨List.mem_of_getElem? hp, h2⟩
theorem am_al_in {α : Type} {k : Nat} {v : α} : ∀ {l : List (Nat × α)}, am_al k l = some v → (k, v) ∈ l
  | [], h => by cases h
  | q :: r, h => by
    unfold am_al at h
    split at h
    next e =>
      cases h
      have e2 : q.1 = k := Nat.eq_of_beq_eq_true e
      rw [← e2]
      exact List.mem_cons_self
    next => exact List.mem_cons_of_mem _ (am_al_in h)
theorem am_al2_all {α : Type} {o k : Nat} {v : α} {L : List (Nat × List (Nat × α))} {f : Nat → Nat → α → Bool} (h : am_al2 o k L = some v) (ha : L.all (fun q => q.2.all (fun r => f q.1 r.1 r.2)) = true) : f o k v = true := by
  unfold am_al2 at h
  split at h
  next l e =>
    have h1 := List.all_eq_true.mp ha _ (am_al_in e)
    exact List.all_eq_true.mp h1 _ (am_al_in h)
  next => cases h
def tb_flok (o k : Nat) (v : Nat × Nat × Nat × Nat) : Bool := match tb_cl[v.1]? with
  | some (_, T, N) => Nat.blt v.2.1 N && tb_at v.2.2.2 (.fieldLink (tb_cn o) k (T v.2.1).1 (T v.2.1).2.1 (T v.2.1).2.2.1) && (match v.2.2.1 with | 0 => decide (parseFieldDescriptor (T v.2.1).2.2.1 = some .int) && !(T v.2.1).2.2.2 | 1 => decide (parseFieldDescriptor (T v.2.1).2.2.1 = some .boolean) && !(T v.2.1).2.2.2 | _ => true)
  | none => false
theorem tf_fl : tb_flL.all (fun q => q.2.all (fun r => tb_flok q.1 r.1 r.2)) = true := by decide +kernel
def tb_ciok (o k : Nat) (v : Int × Nat) : Bool := tb_at v.2 (.constant (tb_cn o) k (Int32.ofInt v.1))
theorem tf_ci : tb_ciL.all (fun q => q.2.all (fun r => tb_ciok q.1 r.1 r.2)) = true := by decide +kernel
def tb_clok (o k : Nat) (v : Int × Nat) : Bool := tb_at v.2 (.constantLong (tb_cn o) k (Int64.ofInt v.1))
theorem tf_cl : tb_clL.all (fun q => q.2.all (fun r => tb_clok q.1 r.1 r.2)) = true := by decide +kernel
def tb_cdok (o k : Nat) (v : UInt64 × Nat) : Bool := tb_at v.2 (.constantDouble (tb_cn o) k v.1)
theorem tf_cd : tb_cdL.all (fun q => q.2.all (fun r => tb_cdok q.1 r.1 r.2)) = true := by decide +kernel
def tb_macn (m : Nat) : MethodName := match m with
  | 0 => Lib.Math.max.name
  | 1 => Lib.Math.min.name
  | 2 => Lib.Math.abs.name
  | 3 => arraycopyName
  | _ => yL_cell
def tb_macok (o k : Nat) (v : Nat × Nat) : Bool := tb_at v.2 (.methodLink (tb_cn o) k (tb_macn v.1))
theorem tf_mac : tb_macL.all (fun q => q.2.all (fun r => tb_macok q.1 r.1 r.2)) = true := by decide +kernel
def tb_nest : Cond := .methodLinkNest "OathDiary$Thinner" 104 ⟨"OathDiary", "roundedUp", "(II)I"⟩ "OathDiary"
def tb_callok (o k : Nat) (v : Nat × Nat × Bool × Nat) : Bool := match tb_m v.1 with
  | some (y, _, _, _, _, st, np) => (match v.2.2.1 with | false => tb_at v.2.2.2 (.methodLink (tb_cn o) k y) | true => decide (tb_nest = .methodLinkNest (tb_cn o) k y "OathDiary") && st) && Nat.beq v.2.1 (match st with | true => np | false => np + 1)
  | none => false
theorem tf_call : tb_callL.all (fun q => q.2.all (fun r => tb_callok q.1 r.1 r.2)) = true := by decide +kernel
def tb_mok (i : Nat) (v : tb_T) : Bool := match am_al i tb_mP, v with
  | some (_, ps, pl, pi), (y, _, nL, _, o, st, np) =>
      (match st with | true => tb_at ps (.static y) | false => tb_at ps (.instanceMethod y) && tb_at pl (.selects y.cls y y)) && tb_at pi (.initialized y.cls) && decide (y.cls = tb_cn o) &&
      decide (y.cls ≠ "java/lang/invoke/MethodHandle" ∧ y.cls ≠ "java/lang/invoke/VarHandle") && decide ((parseMethodDescriptor y.desc).map (fun d => d.parameters.length) = some np) && plainFor y && Nat.ble nL 14 && (match st with | true => true | false => match tb_cl[o]? with | some q => decide (q.1 = y.cls) | none => false) && (match am_al i tb_hhL with | some _ => st | none => true)
  | none, _ => Nat.beq i 88
theorem tf_m : tb_mL.all (fun q => tb_mok q.1 q.2) = true := by decide +kernel
theorem tf_clw : (tb_cl.all fun q => (u_ws q.1 q.2.1 q.2.2).all (fun w => decide (w ∈ am_GL))) = true := by decide +kernel
def tb_wA : List Cond := tb_mA.map (fun q => Cond.code q.2.1 q.2.2.1 q.2.2.2.1 q.2.2.2.2.1)
def tb_wW : List Cond := tb_mW.map (fun q => Cond.codeWith q.2.1 q.2.2.1 q.2.2.2.1 q.2.2.2.2.1 ((am_al q.1 tb_hhL).getD []))
set_option maxRecDepth 100000 in
theorem tf_wA : tb_wA = tb_cA.filterMap (fun i => lw_tbl[i]?) := rfl
set_option maxRecDepth 100000 in
theorem tf_wW : tb_wW = tb_cW.filterMap (fun i => lw_tbl[i]?) := rfl
theorem tf_wAg : tb_wA.all goodWord = true := by decide +kernel
theorem tf_wWg : tb_wW.all goodWord = true := by decide +kernel
theorem tf_mA : (tb_mA.all fun q => match am_al q.1 tb_hhL with | none => true | some _ => false) = true := by decide +kernel
theorem tf_mW : (tb_mW.all fun q => match am_al q.1 tb_hhL, am_al q.1 tb_hnL with | some _, some _ => q.2.2.2.2.2.2.1 | _, _ => false) = true := by decide +kernel
theorem tf_ma : [Cond.static Lib.Math.max.name, .code Lib.Math.max.name Lib.Math.max.code 2 (some .int), .static Lib.Math.min.name, .code Lib.Math.min.name Lib.Math.min.code 2 (some .int), .static Lib.Math.abs.name, .code Lib.Math.abs.name Lib.Math.abs.code 1 (some .int), .initialized "java/lang/Math",
  .native arraycopyName, .static arraycopyName, .initialized "java/lang/System", .static yL_cell, .code yL_cell cL_cell 2 (some .int), .initialized RL].all (fun w => decide (w ∈ am_GL)) = true := by decide +kernel
