/-- an instruction's length, where its row wants it -/
def am_len (ins : Instr) : Nat := match ins with
  | .bipush _ | .ldc _ | .iload _ | .aload _ | .lload _ | .dload _ | .istore _ | .astore _ | .lstore _ | .dstore _ => 2
  | .sipush _ | .ldc_w _ | .ldc2_w _ | .iinc _ _ | .goto _ | .if_icmp _ _ | .ifCond _ _ | .ifnull _ | .ifnonnull _ | .getfield _ | .putfield _ | .invokevirtual _ | .invokestatic _ | .invokespecial _ | .new _ => 3
  | .tableswitch _ _ _ _ | .lookupswitch _ _ => 0
  | .newarray _ => 2
  | _ => 1
theorem am_tg_eq {pc t : Nat} {off : Int} (h : am_tg pc off = some t) : (pc : Int) + off = (t : Int) := by
  unfold am_tg at h
  split at h
  next e => cases h; exact e
  next => cases h
theorem am_vpin {i : Int} {n : Nat} (hn : n < 2 ^ 31) (h : 0 ≤ i ∧ i < (n : Nat)) : vp_in (Int32.ofInt i) n ∧ (Int32.ofInt i).toNatClampNeg = i.toNat := by
  have e : Int32.ofInt i = nI i.toNat := by
    unfold nI
    rw [show i = ((i.toNat : Nat) : Int) by omega]
    rfl
  rw [e]
  exact ⟨vp_in_nI (by omega) hn, nI_clamp (by omega)⟩
theorem am_toInt {x : Int} (h : am_rg x) : (Int32.ofInt x).toInt = x := by
  unfold am_rg at h
  rw [Int32.toInt_ofInt]
  have e : (Int32.size : Int) = 4294967296 := rfl
  simp only [Int.bmod, e]
  omega
theorem am_toIntL {x : Int} (h : am_rl x) : (Int64.ofInt x).toInt = x := by
  unfold am_rl at h
  rw [Int64.toInt_ofInt]
  have e : (Int64.size : Int) = 18446744073709551616 := rfl
  simp only [Int.bmod, e]
  omega
theorem am_eq {x y : Int} (hx : am_rg x) (hy : am_rg y) : Int32.ofInt x = Int32.ofInt y ↔ x = y := by
  rw [← Int32.toInt_inj, am_toInt hx, am_toInt hy]
theorem am_lt {x y : Int} (hx : am_rg x) (hy : am_rg y) : Int32.ofInt x < Int32.ofInt y ↔ x < y := by
  rw [Int32.lt_iff_toInt_lt, am_toInt hx, am_toInt hy]
theorem am_le {x y : Int} (hx : am_rg x) (hy : am_rg y) : Int32.ofInt x ≤ Int32.ofInt y ↔ x ≤ y := by
  rw [Int32.le_iff_toInt_le, am_toInt hx, am_toInt hy]
theorem am_rg0 : am_rg 0 := by unfold am_rg; omega
theorem am_of32 (z : Int32) : Int32.ofInt z.toInt = z := by
  rw [← Int32.toInt_inj, am_toInt]
  unfold am_rg
  have h1 := z.toInt_lt
  have h2 := z.le_toInt
  omega
theorem am_of64 (z : Int64) : Int64.ofInt z.toInt = z := by
  rw [← Int64.toInt_inj, am_toIntL]
  unfold am_rl
  have h1 := z.toInt_lt
  have h2 := z.le_toInt
  omega
theorem am_div {x y : Int} (hx : am_rg x) (hy : am_rg y) (h0 : 0 < y) : Int32.ofInt x / Int32.ofInt y = Int32.ofInt (x.tdiv y) := by
  rw [← Int32.toInt_inj, Int32.toInt_div, am_toInt hx, am_toInt hy, Int32.toInt_ofInt]
theorem am_divL {x y : Int} (hx : am_rl x) (hy : am_rl y) (h0 : 0 < y) : Int64.ofInt x / Int64.ofInt y = Int64.ofInt (x.tdiv y) := by
  rw [← Int64.toInt_inj, Int64.toInt_div, am_toIntL hx, am_toIntL hy, Int64.toInt_ofInt]
theorem am_rem {x y : Int} (hx : am_rg x) (hy : am_rg y) (h0 : 0 < y) : Int32.ofInt x - Int32.ofInt x / Int32.ofInt y * Int32.ofInt y = Int32.ofInt (x.tmod y) := by
  rw [am_div hx hy h0, ← Int32.ofInt_mul, ← Int32.ofInt_sub]
  congr 1
  have := Int.tdiv_mul_add_tmod x y
  omega
theorem am_i2l {x : Int} (hx : am_rg x) : (Int32.ofInt x).toInt64 = Int64.ofInt x := by
  rw [← Int64.toInt_inj, Int32.toInt_toInt64, am_toInt hx, am_toIntL]
  unfold am_rg at hx
  unfold am_rl
  omega
theorem am_l2i (x : Int) : (Int64.ofInt x).toInt32 = Int32.ofInt x := by
  rw [← Int32.toInt_inj, Int64.toInt_toInt32, Int64.toInt_ofInt, Int32.toInt_ofInt]
  exact Int.bmod_bmod_of_dvd (by decide)
theorem am_lc {x y : Int} (h : (am_rl x ∧ am_rl y) ∨ x = y) : lg_cmp (Int64.ofInt x) (Int64.ofInt y) = Int32.ofInt (am_lci x y) := by
  rcases h with ⟨hx, hy⟩ | rfl
  · unfold lg_cmp am_lci
    simp only [gt_iff_lt, Int64.lt_iff_toInt_lt, ← Int64.toInt_inj, am_toIntL hx, am_toIntL hy]
    repeat' split
    all_goals rfl
  · unfold lg_cmp am_lci
    rw [if_neg (by simp), if_pos rfl, if_neg (by omega), if_pos rfl]
    rfl
section AMS
variable {p : Program} {l : Launch} {e : Env} {R : Room} {s : State} {m : MethodId} {args : Array Value} {below : List Frame} {meth : Method} {c : Code} {cells slots : Nat} {Z : State → Prop} {cc : ByteArray} {ρ : Nat → Nat} {D : va_G} {cA : Nat → ClassId} {base o nL : Nat} {scr : Option (Int × (Int → Int))}
/-- what stands fast while a method runs -/
def am_fix (p : Program) (s : State) (m : MethodId) (args : Array Value) (c : Code) (cc : ByteArray) (R : Room) (cells slots : Nat) (ρ : Nat → Nat) (D : va_G) (cA : Nat → ClassId) (base o nL : Nat) (scr : Option (Int × (Int → Int))) : Prop :=
  p.tables.exec = Jvm.exec ∧ c.code = cc ∧ c.maxLocals = nL ∧ (∀ w ∈ am_GL, w.before args s = true) ∧ s.vm.findClass (tb_cn o) = some m.cls ∧ am_ρ ρ base ∧ am_env D cA base s s.heap ∧ 1 ≤ R.frames ∧ 40 ≤ R.locals ∧ cells ≤ R.cells ∧ slots ≤ R.slots ∧ nL ≤ 14 ∧
  (match scr with
    | none => True
    | some (L, xs) => ∃ (n : Nat) (f : Nat → Int32), L = (n : Int) ∧ n < 2 ^ 31 ∧ va_X (ρ 999) n f s s.heap ∧ ρ 999 < s.heap.size ∧ ¬ base ≤ ρ 999 ∧ ∀ j : Nat, j < n → Int32.ofInt (xs j) = f j)
def am_at_ (p : Program) (l : Launch) (e : Env) (R : Room) (s : State) (m : MethodId) (args : Array Value) (below : List Frame) (meth : Method) (c : Code) (cells slots : Nat) (Z : State → Prop) (ρ : Nat → Nat) (D : va_G) (cA : Nat → ClassId) (base nL : Nat) (pc : Nat) (lv : am_L) (st : List am_V) (M : am_M) : Prop :=
  ∀ (H : Heap) (locs : List Loc) (ls : Array Slot), va_P D tb_cl (am_ws ρ cA M) H → va_S (fun q : Nat => base ≤ q) s.heap H locs → lv_has ls nL (am_cl ρ lv) → W p l e R s m args below meth c H locs cells slots Z (F0 m pc ls (st.map (am_cv ρ)))
theorem am_lay_n {a n : Nat} (h : tb_lay[a]? = some (.inl (.inl n))) : n < 2 ^ 31 := by
  have h1 : (tb_lay.all fun e => match e with | .inl (.inl n) => Nat.blt n 2147483648 | .inl (.inr n) => Nat.blt n 2147483648 | .inr (.inl rs) => Nat.blt rs.length 2147483648 | _ => true) = true := by decide +kernel
  have h2 := List.all_eq_true.mp h1 _ (List.mem_of_getElem? h)
  exact Nat.lt_of_lt_of_le (Nat.ble_eq.mp h2) (by decide)
theorem am_lay_l {a n : Nat} (h : tb_lay[a]? = some (.inl (.inr n))) : n < 2 ^ 31 := by
  have h1 : (tb_lay.all fun e => match e with | .inl (.inl n) => Nat.blt n 2147483648 | .inl (.inr n) => Nat.blt n 2147483648 | .inr (.inl rs) => Nat.blt rs.length 2147483648 | _ => true) = true := by decide +kernel
  have h2 := List.all_eq_true.mp h1 _ (List.mem_of_getElem? h)
  exact Nat.lt_of_lt_of_le (Nat.ble_eq.mp h2) (by decide)
theorem am_lay_r {a : Nat} {rs : List Nat} (h : tb_lay[a]? = some (.inr (.inl rs))) : rs.length < 2 ^ 31 := by
  have h1 : (tb_lay.all fun e => match e with | .inl (.inl n) => Nat.blt n 2147483648 | .inl (.inr n) => Nat.blt n 2147483648 | .inr (.inl rs) => Nat.blt rs.length 2147483648 | _ => true) = true := by decide +kernel
  have h2 := List.all_eq_true.mp h1 _ (List.mem_of_getElem? h)
  exact Nat.lt_of_lt_of_le (Nat.ble_eq.mp h2) (by decide)
theorem am_updI {M : am_M} {a n : Nat} {i x : Int} (h : 0 ≤ i ∧ i < (n : Nat)) : upd (fun j => Int32.ofInt (M a j)) i.toNat (Int32.ofInt x) = fun (j : Nat) => Int32.ofInt (am_up M a i x a j) := by
  funext j
  unfold upd am_up
  by_cases hj : j = i.toNat
  · rw [if_pos hj, if_pos ⟨rfl, by omega⟩]
  · rw [if_neg hj, if_neg (fun q => hj (by omega))]
theorem am_updL {M : am_M} {a n : Nat} {i x : Int} (h : 0 ≤ i ∧ i < (n : Nat)) : vp_updL (fun j => Int64.ofInt (M a j)) i.toNat (Int64.ofInt x) = fun (j : Nat) => Int64.ofInt (am_up M a i x a j) := by
  funext j
  unfold vp_updL am_up
  by_cases hj : j = i.toNat
  · rw [if_pos hj, if_pos ⟨rfl, by omega⟩]
  · rw [if_neg hj, if_neg (fun q => hj (by omega))]
theorem am_up_ne {M : am_M} {a : Nat} {i x : Int} : ∀ a' j, a' ≠ a → am_up M a i x a' j = M a' j := fun a' j h => by
  unfold am_up
  rw [if_neg (fun q => h q.1)]
def am_fv (ρ : Nat → Nat) (M : am_M) (a j : Nat) (z : Option Nat) : Value := match z with
  | none => .int (Int32.ofInt (M a j))
  | some r => .ref (ρ r)
theorem am_fs_at {M : am_M} {a j : Nat} {fk : List (Option Nat)} {z : Option Nat} (h : fk[j]? = some z) : (am_fs ρ M a fk)[j]? = some (am_fv ρ M a j z) := by
  unfold am_fs
  rw [List.getElem?_mapIdx, h]
  rfl
theorem am_fs_set {M : am_M} {a j : Nat} {fk : List (Option Nat)} {x : Int} (h : fk[j]? = some none) : (am_fs ρ M a fk).set j (.int (Int32.ofInt x)) = am_fs ρ (am_up M a (j : Nat) x) a fk := by
  have hl : j < (am_fs ρ M a fk).length := by
    unfold am_fs
    rw [List.length_mapIdx]
    exact (List.getElem?_eq_some_iff.mp h).1
  refine List.ext_getElem? (fun k => ?_)
  by_cases hk : k = j
  · subst hk
    rw [List.getElem?_set_self hl, am_fs_at h]
    show some (Value.int (Int32.ofInt x)) = some (Value.int (Int32.ofInt (am_up M a k x a k)))
    unfold am_up
    rw [if_pos ⟨rfl, rfl⟩]
  · rw [List.getElem?_set_ne (Ne.symm hk)]
    unfold am_fs
    rw [List.getElem?_mapIdx, List.getElem?_mapIdx]
    cases fk[k]? with
    | none => rfl
    | some z =>
      cases z with
      | none =>
        show some (Value.int (Int32.ofInt (M a k))) = some (Value.int (Int32.ofInt (am_up M a j x a k)))
        unfold am_up
        rw [if_neg (fun q => hk (by omega))]
      | some r => rfl
end AMS
