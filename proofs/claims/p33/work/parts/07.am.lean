/-- what stands on the stack, in words -/
def am_cs : List am_V → Nat
  | [] => 0
  | v :: r => am_cat v + am_cs r
def am_al2 {α : Type} (o k : Nat) (L : List (Nat × List (Nat × α))) : Option α := match am_al o L with
  | some l => am_al k l
  | none => none
def tb_fl (o k : Nat) : Option (Nat × Nat × Nat) := match am_al2 o k tb_flL with
  | some (ci, j, t, _) => some (ci, j, t)
  | none => none
def tb_ci (o k : Nat) : Option Int := match am_al2 o k tb_ciL with
  | some (v, _) => some v
  | none => none
def tb_cL (o k : Nat) : Option Int := match am_al2 o k tb_clL with
  | some (v, _) => some v
  | none => none
def tb_cd (o k : Nat) : Option UInt64 := match am_al2 o k tb_cdL with
  | some (v, _) => some v
  | none => none
def tb_mac (o k : Nat) : Option Nat := match am_al2 o k tb_macL with
  | some (v, _) => some v
  | none => none
/-- a call: the method, how many values it takes, whether the link is a nest mate's -/
def tb_call (o k : Nat) : Option (Nat × Nat × Bool) := match am_al2 o k tb_callL with
  | some (y, n, b, _) => some (y, n, b)
  | none => none
def tb_thr (o k : Nat) : Option Nat := match am_al2 o k tb_thrL with
  | some (v, _) => some v
  | none => none
def tb_thc (o k : Nat) : Option Nat := am_al2 o k tb_thcL
def tb_str (o k : Nat) : Option String := am_al2 o k tb_strL
abbrev tb_T : Type := MethodName × ByteArray × Nat × Option FieldType × Nat × Bool × Nat
def tb_m (y : Nat) : Option tb_T := am_al y tb_mL
def tb_code (y : Nat) : Nat → Option (Instr × Nat) := match am_al y tb_codeL with
  | some f => f
  | none => fun _ => none
/-- 1 where a method catches (the law's wrappers): it may have made an exception when it returns -/
def tb_cost (y : Nat) : Nat := match am_al y tb_hnL with
  | some _ => 1
  | none => 0
def am_hfind (pc E : Nat) : List (Nat × Nat × Nat × Nat × Nat × Nat) → Option (Nat × Nat)
  | [] => none
  | (s, e, E', _, i, np) :: r => match Nat.ble s pc, Nat.blt pc e, Nat.beq E E' with
    | true, true, true => some (i, np)
    | _, _, _ => am_hfind pc E r
def tb_hn (y pc E : Nat) : Option (Nat × Nat) := match am_al y tb_hnL with
  | some l => am_hfind pc E l
  | none => none
/-- the law's cell -/
def am_ce (L : Int) (xs : Int → Int) (k : Int) : Int := (Int32.ofInt (if k < L then xs k else 15556717 * k + 1117) &&& Int32.ofInt 2147483647).toInt
/-- one instruction that goes on at one place -/
def am_s1 (o nL : Nat) (scr : Option (Int × (Int → Int))) (ins : Instr) (pc : Nat) (lv : am_L) (st : List am_V) (M : am_M) : am_R := match ins with
  | .iconst n => some ([], pc + 1, lv, .inl n :: st, M)
  | .bipush n => some ([-128 ≤ n ∧ n ≤ 127], pc + 2, lv, .inl n :: st, M)
  | .sipush n => some ([-32768 ≤ n ∧ n ≤ 32767], pc + 3, lv, .inl n :: st, M)
  | .lconst n => some ([], pc + 1, lv, .inr (.inr (.inl ((n.val : Nat) : Int))) :: st, M)
  | .dconst n => some ([], pc + 1, lv, .inr (.inr (.inr (if n.val = 0 then FP.dconst0 else FP.dconst1))) :: st, M)
  | .aconst_null => some ([], pc + 1, lv, .inr (.inl none) :: st, M)
  | .ldc k => (tb_ci o k).map (fun v => ([], pc + 2, lv, .inl v :: st, M))
  | .ldc2_w k => match tb_cL o k with
    | some v => some ([], pc + 3, lv, .inr (.inr (.inl v)) :: st, M)
    | none => (tb_cd o k).map (fun v => ([], pc + 3, lv, .inr (.inr (.inr v)) :: st, M))
  | .iload i => (am_ldi i lv).map (fun x => ([], pc + 2, lv, .inl x :: st, M))
  | .iload_n i => (am_ldi i.val lv).map (fun x => ([], pc + 1, lv, .inl x :: st, M))
  | .aload i => (am_lda i lv).map (fun x => ([], pc + 2, lv, .inr (.inl x) :: st, M))
  | .aload_n i => (am_lda i.val lv).map (fun x => ([], pc + 1, lv, .inr (.inl x) :: st, M))
  | .lload i => (am_ldl i lv).map (fun x => ([], pc + 2, lv, .inr (.inr (.inl x)) :: st, M))
  | .lload_n i => (am_ldl i.val lv).map (fun x => ([], pc + 1, lv, .inr (.inr (.inl x)) :: st, M))
  | .dload i => (am_ldd i lv).map (fun x => ([], pc + 2, lv, .inr (.inr (.inr x)) :: st, M))
  | .dload_n i => (am_ldd i.val lv).map (fun x => ([], pc + 1, lv, .inr (.inr (.inr x)) :: st, M))
  | .istore i => am_sti nL i (pc + 2) lv st M
  | .istore_n i => am_sti nL i.val (pc + 1) lv st M
  | .astore i => am_sta nL i (pc + 2) lv st M
  | .astore_n i => am_sta nL i.val (pc + 1) lv st M
  | .lstore i => am_stl nL i (pc + 2) lv st M
  | .lstore_n i => am_stl nL i.val (pc + 1) lv st M
  | .dstore i => am_std nL i (pc + 2) lv st M
  | .dstore_n i => am_std nL i.val (pc + 1) lv st M
  | .iinc i n => match am_ldi i lv with
    | some x => (am_st nL i (.inl (x + n)) lv).map (fun lv' => ([], pc + 3, lv', st, M))
    | none => none
  | .iadd => match st with
    | .inl y :: .inl x :: r => some ([], pc + 1, lv, .inl (x + y) :: r, M)
    | _ => none
  | .isub => match st with
    | .inl y :: .inl x :: r => some ([], pc + 1, lv, .inl (x - y) :: r, M)
    | _ => none
  | .imul => match st with
    | .inl y :: .inl x :: r => some ([], pc + 1, lv, .inl (x * y) :: r, M)
    | _ => none
  | .ineg => match st with
    | .inl x :: r => some ([], pc + 1, lv, .inl (-x) :: r, M)
    | _ => none
  | .idiv => match st with
    | .inl y :: .inl x :: r => some ([am_rg x ∧ am_rg y ∧ 0 < y], pc + 1, lv, .inl (x.tdiv y) :: r, M)
    | _ => none
  | .irem => match st with
    | .inl y :: .inl x :: r => some ([am_rg x ∧ am_rg y ∧ 0 < y], pc + 1, lv, .inl (x.tmod y) :: r, M)
    | _ => none
  | .iand => match st with
    | .inl y :: .inl x :: r => some ([], pc + 1, lv, .inl ((Int32.ofInt x &&& Int32.ofInt y).toInt) :: r, M)
    | _ => none
  | .ior => match st with
    | .inl y :: .inl x :: r => some ([], pc + 1, lv, .inl ((Int32.ofInt x ||| Int32.ofInt y).toInt) :: r, M)
    | _ => none
  | .ixor => match st with
    | .inl y :: .inl x :: r => some ([], pc + 1, lv, .inl ((Int32.ofInt x ^^^ Int32.ofInt y).toInt) :: r, M)
    | _ => none
  | .ishr => match st with
    | .inl y :: .inl x :: r => some ([], pc + 1, lv, .inl ((Int32.ofInt x >>> (Int32.ofInt y &&& 31)).toInt) :: r, M)
    | _ => none
  | .i2l => match st with
    | .inl x :: r => some ([am_rg x], pc + 1, lv, .inr (.inr (.inl x)) :: r, M)
    | _ => none
  | .l2i => match st with
    | .inr (.inr (.inl x)) :: r => some ([], pc + 1, lv, .inl x :: r, M)
    | _ => none
  | .i2d => match st with
    | .inl x :: r => some ([], pc + 1, lv, .inr (.inr (.inr (FP.i2d (Int32.ofInt x)))) :: r, M)
    | _ => none
  | .d2l => match st with
    | .inr (.inr (.inr x)) :: r => some ([], pc + 1, lv, .inr (.inr (.inl (FP.d2l x).toInt)) :: r, M)
    | _ => none
  | .ladd => match st with
    | .inr (.inr (.inl y)) :: .inr (.inr (.inl x)) :: r => some ([], pc + 1, lv, .inr (.inr (.inl (x + y))) :: r, M)
    | _ => none
  | .lsub => match st with
    | .inr (.inr (.inl y)) :: .inr (.inr (.inl x)) :: r => some ([], pc + 1, lv, .inr (.inr (.inl (x - y))) :: r, M)
    | _ => none
  | .lmul => match st with
    | .inr (.inr (.inl y)) :: .inr (.inr (.inl x)) :: r => some ([], pc + 1, lv, .inr (.inr (.inl (x * y))) :: r, M)
    | _ => none
  | .ldiv => match st with
    | .inr (.inr (.inl y)) :: .inr (.inr (.inl x)) :: r => some ([am_rl x ∧ am_rl y ∧ 0 < y], pc + 1, lv, .inr (.inr (.inl (x.tdiv y))) :: r, M)
    | _ => none
  | .lshl => match st with
    | .inl y :: .inr (.inr (.inl x)) :: r => some ([], pc + 1, lv, .inr (.inr (.inl (Int64.ofInt x <<< ((Int32.ofInt y).toInt64 &&& 63)).toInt)) :: r, M)
    | _ => none
  | .lcmp => match st with
    | .inr (.inr (.inl y)) :: .inr (.inr (.inl x)) :: r => some ([(am_rl x ∧ am_rl y) ∨ x = y], pc + 1, lv, .inl (am_lci x y) :: r, M)
    | _ => none
  | .ddiv => match st with
    | .inr (.inr (.inr y)) :: .inr (.inr (.inr x)) :: r => some ([vf_n64 (FP.ddiv x y)], pc + 1, lv, .inr (.inr (.inr (FP.ddiv x y))) :: r, M)
    | _ => none
  | .dmul => match st with
    | .inr (.inr (.inr y)) :: .inr (.inr (.inr x)) :: r => some ([vf_n64 (FP.dmul x y)], pc + 1, lv, .inr (.inr (.inr (FP.dmul x y))) :: r, M)
    | _ => none
  | .dsub => match st with
    | .inr (.inr (.inr y)) :: .inr (.inr (.inr x)) :: r => some ([vf_n64 (FP.dsub x y)], pc + 1, lv, .inr (.inr (.inr (FP.dsub x y))) :: r, M)
    | _ => none
  | .dcmp op => match st with
    | .inr (.inr (.inr y)) :: .inr (.inr (.inr x)) :: r => some ([], pc + 1, lv, .inl (Op.cmpValue (FP.dcmp x y) op).toInt :: r, M)
    | _ => none
  | .dup => match st with
    | .inl x :: r => some ([], pc + 1, lv, .inl x :: .inl x :: r, M)
    | .inr (.inl x) :: r => some ([], pc + 1, lv, .inr (.inl x) :: .inr (.inl x) :: r, M)
    | _ => none
  | .dup2 => match st with
    | .inl y :: .inr (.inl x) :: r => some ([], pc + 1, lv, .inl y :: .inr (.inl x) :: .inl y :: .inr (.inl x) :: r, M)
    | _ => none
  | .pop => match st with
    | .inl _ :: r => some ([], pc + 1, lv, r, M)
    | .inr (.inl _) :: r => some ([], pc + 1, lv, r, M)
    | _ => none
  | .goto off => (am_tg pc off).map (fun t => ([], t, lv, st, M))
  | .getfield k => match st with
    | .inr (.inl (some a)) :: r => match tb_fl o k, tb_lay[a]? with
      | some (ci, j, _), some (.inr (.inr (ci', fk))) => match Nat.beq ci ci', fk[j]? with
        | true, some none => some ([], pc + 3, lv, .inl (M a (j : Nat)) :: r, M)
        | true, some (some b) => some ([], pc + 3, lv, .inr (.inl (some b)) :: r, M)
        | _, _ => none
      | _, _ => none
    | _ => none
  | .putfield k => match st with
    | .inl x :: .inr (.inl (some a)) :: r => match tb_fl o k, tb_lay[a]? with
      | some (ci, j, t), some (.inr (.inr (ci', fk))) => match Nat.beq ci ci', fk[j]?, t with
        | true, some none, 0 => some ([], pc + 3, lv, r, am_up M a (j : Nat) x)
        | true, some none, 1 => some ([x = 0 ∨ x = 1], pc + 3, lv, r, am_up M a (j : Nat) x)
        | _, _, _ => none
      | _, _ => none
    | _ => none
  | .iaload => match st with
    | .inl i :: .inr (.inl (some a)) :: r => match tb_lay[a]?, scr with
      | some (.inl (.inl n)), _ => some ([0 ≤ i ∧ i < (n : Nat)], pc + 1, lv, .inl (M a i) :: r, M)
      | none, some (L, xs) => match Nat.beq a 999 with
        | true => some ([0 ≤ i ∧ i < L], pc + 1, lv, .inl (xs i) :: r, M)
        | false => none
      | _, _ => none
    | _ => none
  | .iastore => match st with
    | .inl x :: .inl i :: .inr (.inl (some a)) :: r => match tb_lay[a]? with
      | some (.inl (.inl n)) => some ([0 ≤ i ∧ i < (n : Nat)], pc + 1, lv, r, am_up M a i x)
      | _ => none
    | _ => none
  | .arraylength => match st with
    | .inr (.inl (some a)) :: r => match tb_lay[a]?, scr with
      | some (.inr (.inl rs)), _ => some ([], pc + 1, lv, .inl (rs.length : Nat) :: r, M)
      | none, some (L, _) => match Nat.beq a 999 with
        | true => some ([], pc + 1, lv, .inl L :: r, M)
        | false => none
      | _, _ => none
    | _ => none
  | .invokestatic k => match tb_mac o k, st with
    | some 0, .inl y :: .inl x :: r => some ([am_rg x ∧ am_rg y ∧ am_cs r ≤ 8], pc + 3, lv, .inl (if x < y then y else x) :: r, M)
    | some 1, .inl y :: .inl x :: r => some ([am_rg x ∧ am_rg y ∧ am_cs r ≤ 8], pc + 3, lv, .inl (if y < x then y else x) :: r, M)
    | some 2, .inl x :: r => some ([am_rg x ∧ am_cs r ≤ 8], pc + 3, lv, .inl (if 0 ≤ x then x else 0 - x) :: r, M)
    | some 3, .inl n :: .inl dp :: .inr (.inl (some a1)) :: .inl sp :: .inr (.inl (some a0)) :: r => match tb_lay[a0]?, tb_lay[a1]? with
      | some (.inl (.inl n0)), some (.inl (.inl n1)) => some ([sp = 0 ∧ dp = 0 ∧ 0 ≤ n ∧ n ≤ (n0 : Nat) ∧ n ≤ (n1 : Nat) ∧ am_cs r ≤ 8], pc + 3, lv, r, am_cp M a0 a1 n)
      | _, _ => none
    | some 5, .inl k :: .inr (.inl (some a)) :: r => match Nat.beq a 999, scr with
      | true, some (L, xs) => some ([am_rg k ∧ 0 ≤ k ∧ am_cs r ≤ 8], pc + 3, lv, .inl (am_ce L xs k) :: r, M)
      | _, _ => none
    | _, _ => none
  | _ => none
def am_cmp (c : Jvm.ClassFile.Cond) (x y : Int) : Prop := match c with
  | .eq => x = y
  | .ne => ¬ x = y
  | .lt => x < y
  | .ge => y ≤ x
  | .gt => y < x
  | .le => x ≤ y
def am_br (ins : Instr) (pc : Nat) (st : List am_V) : Option (List Prop × Prop × Nat × List am_V) := match ins with
  | .if_icmp c off => match st with
    | .inl y :: .inl x :: r => (am_tg pc off).map (fun t => ([am_rg x, am_rg y], am_cmp c x y, t, r))
    | _ => none
  | .ifCond c off => match st with
    | .inl x :: r => (am_tg pc off).map (fun t => ([am_rg x], am_cmp c x 0, t, r))
    | _ => none
  | .ifnull off => match st with
    | .inr (.inl x) :: r => (am_tg pc off).map (fun t => ([], x = none, t, r))
    | _ => none
  | .ifnonnull off => match st with
    | .inr (.inl x) :: r => (am_tg pc off).map (fun t => ([], ¬ x = none, t, r))
    | _ => none
  | _ => none
/-- all of a list -/
def am_all : List Prop → Prop
  | [] => True
  | p :: r => p ∧ am_all r
def am_push (r : Option am_V) (st : List am_V) : List am_V := match r with
  | some v => v :: st
  | none => st
/-- the receiver of a call is an object of the method's own class -/
def am_recv (y : Nat) (as : List am_V) : Prop := match tb_m y, as with
  | some (_, _, _, _, _, true, _), _ => True
  | some (_, _, _, _, o, false, _), .inr (.inl (some a)) :: _ => ∃ fk, tb_lay[a]? = some (.inr (.inr (o, fk)))
  | _, _ => False
def am_iv (y k : Nat) (ins : Instr) : Prop := match tb_m y with
  | some (_, _, _, _, _, true, _) => ins = .invokestatic k
  | some (_, _, _, _, _, false, _) => ins = .invokevirtual k
  | none => False
abbrev am_CCt : Type := Nat → List am_V → am_M → am_Q → am_X → Prop
/-- a method's own data: its code, its class, its locals, its answer's type, its handlers -/
abbrev am_D : Type := (Nat → Option (Instr × Nat)) × Nat × Nat × Option FieldType × (Nat → Nat → Option (Nat × Nat))
/-- one step from a place, into X, or to the end in Q or QX -/
def am_F (CC : am_CCt) (d : am_D) (dep cap : Nat) (scr : Option (Int × (Int → Int))) (Q : am_Q) (QX : am_X) (X : am_C → Prop) (c : am_C) : Prop :=
  ∃ (lv : am_L) (ins : Instr) (len : Nat), (∀ q ∈ lv, q ∈ c.2.2.1) ∧ d.1 c.2.1 = some (ins, len) ∧
  ((∃ P pc' lv' st' M', am_s1 d.2.1 d.2.2.1 scr ins c.2.1 lv c.2.2.2.1 c.2.2.2.2 = some (P, pc', lv', st', M') ∧ am_all P ∧ X (c.1, pc', lv', st', M'))
  ∨ (∃ P b t st', am_br ins c.2.1 c.2.2.2.1 = some (P, b, t, st') ∧ am_all P ∧ (b → X (c.1, t, lv, st', c.2.2.2.2)) ∧ (¬ b → X (c.1, c.2.1 + 3, lv, st', c.2.2.2.2)))
  ∨ (∃ dflt lo hi offs x st' t, ins = .tableswitch dflt lo hi offs ∧ c.2.2.2.1 = .inl x :: st' ∧ am_rg x ∧ am_tg c.2.1 dflt = some t ∧ ((x < lo ∨ hi < x) → X (c.1, t, lv, st', c.2.2.2.2)) ∧ ∀ j : Nat, x = lo + (j : Int) → x ≤ hi → ∃ off t', offs[j]? = some off ∧ am_tg c.2.1 off = some t' ∧ X (c.1, t', lv, st', c.2.2.2.2))
  ∨ (∃ dflt ps x st', ins = .lookupswitch dflt ps ∧ (ps.toList.zip (ps.toList.drop 1)).all (fun (a, next) => a.1 < next.1) = true ∧ c.2.2.2.1 = .inl x :: st' ∧ am_rg x ∧ ∃ t, am_tg c.2.1 (Op.lookupswitch.offset ps.toList dflt x) = some t ∧ X (c.1, t, lv, st', c.2.2.2.2))
  ∨ (∃ i a rs st', ins = .aaload ∧ c.2.2.2.1 = .inl i :: .inr (.inl (some a)) :: st' ∧ tb_lay[a]? = some (.inr (.inl rs)) ∧ (0 ≤ i ∧ i < (rs.length : Nat)) ∧ ∀ (j r : Nat), rs[j]? = some r → i = (j : Int) → X (c.1, c.2.1 + 1, lv, .inr (.inl (some r)) :: st', c.2.2.2.2))
  ∨ (∃ k y n b Qc QXc, am_iv y k ins ∧ tb_call d.2.1 k = some (y, n, b) ∧ (c.2.2.2.1.take n).length = n ∧ am_recv y (c.2.2.2.1.take n).reverse ∧ am_cs (c.2.2.2.1.drop n) ≤ 8 ∧ c.1 + tb_cost y ≤ cap ∧ CC y (c.2.2.2.1.take n).reverse c.2.2.2.2 Qc QXc ∧
      (∀ r M', Qc r M' → X (c.1 + tb_cost y, c.2.1 + 3, lv, am_push r (c.2.2.2.1.drop n), M')) ∧
      (∀ E M', QXc E M' → match d.2.2.2.2 c.2.1 E with
        | none => QX E M'
        | some (i, np) => c.1 + 1 ≤ cap ∧ X (c.1 + 1, np, am_kl i lv, [], M')))
  ∨ (∃ x, ins = .ireturn ∧ c.2.2.2.1 = [.inl x] ∧ (d.2.2.2.1 = some .int ∨ (d.2.2.2.1 = some .boolean ∧ (x = 0 ∨ x = 1))) ∧ Q (some (.inl x)) c.2.2.2.2)
  ∨ (∃ x, ins = .lreturn ∧ c.2.2.2.1 = [.inr (.inr (.inl x))] ∧ d.2.2.2.1 = some .long ∧ Q (some (.inr (.inr (.inl x)))) c.2.2.2.2)
  ∨ (∃ x, ins = .dreturn ∧ c.2.2.2.1 = [.inr (.inr (.inr x))] ∧ d.2.2.2.1 = some .double ∧ Q (some (.inr (.inr (.inr x)))) c.2.2.2.2)
  ∨ (∃ x, ins = .areturn ∧ c.2.2.2.1 = [.inr (.inl x)] ∧ (∃ C, d.2.2.2.1 = some (.object C)) ∧ Q (some (.inr (.inl x))) c.2.2.2.2)
  ∨ (ins = .return_ ∧ c.2.2.2.1 = [] ∧ d.2.2.2.1 = none ∧ Q none c.2.2.2.2)
  ∨ (∃ ik is ic E, ins = .new ik ∧ 5 ≤ dep ∧ tb_thr d.2.1 ik = some E ∧ c.2.2.2.1 = [] ∧ d.1 (c.2.1 + 3) = some (.dup, 1) ∧ (tb_str d.2.1 is).isSome = true ∧ tb_thc d.2.1 ic = some E ∧
      ((d.1 (c.2.1 + 4) = some (.ldc is, 2) ∧ d.1 (c.2.1 + 6) = some (.invokespecial ic, 3) ∧ d.1 (c.2.1 + 9) = some (.athrow, 1)) ∨ (d.1 (c.2.1 + 4) = some (.ldc_w is, 3) ∧ d.1 (c.2.1 + 7) = some (.invokespecial ic, 3) ∧ d.1 (c.2.1 + 10) = some (.athrow, 1))) ∧ QX E c.2.2.2.2))
/-- from c on the method comes to an end in Q or QX: the least such set of places -/
def am_W (CC : am_CCt) (d : am_D) (dep cap : Nat) (scr : Option (Int × (Int → Int))) (Q : am_Q) (QX : am_X) (c : am_C) : Prop :=
  ∀ X : am_C → Prop, (∀ c', am_F CC d dep cap scr Q QX X c' → X c') → X c
def am_args : Nat → List am_V → am_L
  | _, [] => []
  | i, v :: vs => (i, v) :: am_args (match am_cat v with | 2 => i + 2 | _ => i + 1) vs
def am_dat (y : Nat) : am_D := match tb_m y with
  | some (_, _, nL, ret, o, _, _) => (tb_code y, o, nL, ret, tb_hn y)
  | none => (fun _ => none, 0, 0, none, fun _ _ => none)
/-- a method that catches throws nothing itself -/
def tb_thw (y : Nat) : Prop := tb_cost y = 0 ∧ y ≠ 24
def am_qx (y : Nat) (QX : am_X) : am_X := fun E M => tb_thw y ∧ QX E M
/-- a call of y, d deep at most, comes to its end in Q or QX -/
def am_CC : Nat → am_CCt
  | 0 => fun _ _ _ _ _ => False
  | n + 1 => fun y as M Q QX => am_cs as ≤ (am_dat y).2.2.1 ∧ am_W (am_CC n) (am_dat y) n (tb_cost y) none Q (am_qx y QX) (0, 0, am_args 0 as, [], M)
