/-! A call's contract, and the small machine's walks in the machine. -/
def tb_hz (y o : Nat) : List (Nat × Nat × Nat × Nat) → List (Nat × Nat × Nat × Nat × Nat × Nat) → Bool
  | [], [] => true
  | (s, e, h, ct) :: r, (s', e', E, h', i, np) :: r' => Nat.beq s s' && Nat.beq e e' && Nat.beq h h' && decide (Cond.classLink (tb_cn o) ct (tb_ex E) ∈ am_GL) && Nat.blt E 3 && !Nat.beq ct 0 && (match tb_code y h with
      | some (.astore k, len) => Nat.beq k i && Nat.beq np (h + len)
      | some (.astore_n k, len) => Nat.beq k.val i && Nat.beq np (h + len)
      | _ => false) && tb_hz y o r r'
  | _, _ => false
theorem tf_h : (tb_hnL.all fun q => match am_al q.1 tb_hhL, tb_m q.1 with
  | some hh, some (_, _, _, _, o, _, _) => tb_hz q.1 o hh q.2
  | _, _ => false) = true := by decide +kernel
def am_rm (d x : Nat) : Room := { frames := d, cells := x, slots := 6 * x, locals := 33 * d + 40 }
def tb_ws (y : Nat) (v : tb_T) : List Cond := (match am_al y tb_hhL with
  | none => Cond.code v.1 v.2.1 v.2.2.1 v.2.2.2.1
  | some hh => Cond.codeWith v.1 v.2.1 v.2.2.1 v.2.2.2.1 hh) :: am_GL
def am_Pc (ρ : Nat → Nat) (D : va_G) (cA : Nat → ClassId) (base : Nat) (as : List am_V) (M : am_M) : Array Value → State → Prop := va_Pc (as.map (am_cv ρ)) (fun U => am_env D cA base U U.heap ∧ va_P D tb_cl (am_ws ρ cA M) U.heap)
def am_Qc (ρ : Nat → Nat) (D : va_G) (cA : Nat → ClassId) (base : Nat) (Q : am_Q) : Array Value → State → Outcome → State → Prop := fun _ st oc t =>
  (∃ (r : Option am_V) (M' : am_M), oc = .returned (r.map (am_cv ρ)) ∧ Q r M' ∧ va_P D tb_cl (am_ws ρ cA M') t.heap) ∧ va_F (fun q : Nat => base ≤ q) st t
def am_XC (ρ : Nat → Nat) (D : va_G) (cA : Nat → ClassId) (base : Nat) (QX : am_X) : String → State → State → Prop := fun E st t =>
  (∃ (e : Nat) (M' : am_M), e < 3 ∧ E = tb_ex e ∧ QX e M' ∧ va_P D tb_cl (am_ws ρ cA M') t.heap) ∧ va_F (fun q : Nat => base ≤ q) st t
abbrev am_free (base : Nat) : Addr → Prop := fun q => base ≤ q
/-- a call that returns: its contract -/
def am_CN (l : Launch) (ρ : Nat → Nat) (D : va_G) (cA : Nat → ClassId) (base n y : Nat) (as : List am_V) (M : am_M) (Q : am_Q) : Prop :=
  ∀ v, tb_m y = some v → Met l v.1 (tb_ws y v) (am_rm n (tb_cost y)) (am_Pc ρ D cA base as M) (am_Qc ρ D cA base Q) (tb_cost y) (6 * tb_cost y) (am_free base)
def am_CX (l : Launch) (ρ : Nat → Nat) (D : va_G) (cA : Nat → ClassId) (base n y : Nat) (as : List am_V) (M : am_M) (QX : am_X) : Prop :=
  ∀ v, tb_m y = some v → vx_Met l v.1 (tb_ws y v) (am_rm n 1) (am_Pc ρ D cA base as M) (fun _ _ _ _ => False) (am_XC ρ D cA base QX) 1 6 (am_free base)
theorem am_good {w : Cond} (h : w ∈ am_GL) : w ∈ am_GL ∧ ((w.onTables && w.keeps) = true ∨ ∃ ty, w = .arrayClass ty) := ⟨h, good_of_word (List.mem_filter.mp h).2⟩
theorem am_codew {y : Nat} {v : tb_T} (h : tb_m y = some v) (h2 : y ≠ 88) : (match am_al y tb_hhL with
  | none => Cond.code v.1 v.2.1 v.2.2.1 v.2.2.2.1
  | some hh => Cond.codeWith v.1 v.2.1 v.2.2.1 v.2.2.2.1 hh) ∈ am_GL := by
  have h1 := am_al_in h
  unfold tb_mL at h1
  rcases List.mem_append.mp h1 with h3 | h3
  · have h4 : Cond.code v.1 v.2.1 v.2.2.1 v.2.2.2.1 ∈ tb_wA := List.mem_map.mpr ⟨(y, v), h3, rfl⟩
    have h5 := List.all_eq_true.mp tf_wAg _ h4
    rw [tf_wA] at h4
    obtain ⟨i, -, hi⟩ := List.mem_filterMap.mp h4
    have h6 := List.all_eq_true.mp tf_mA _ h3
    dsimp only at h6
    cases hh : am_al y tb_hhL with
    | none => exact List.mem_filter.mpr ⟨List.mem_of_getElem? hi, h5⟩
    | some z => rw [hh] at h6; cases h6
  · rcases List.mem_append.mp h3 with h3 | h3
    · have h4 : Cond.codeWith v.1 v.2.1 v.2.2.1 v.2.2.2.1 ((am_al y tb_hhL).getD []) ∈ tb_wW := List.mem_map.mpr ⟨(y, v), h3, rfl⟩
      have h5 := List.all_eq_true.mp tf_wWg _ h4
      rw [tf_wW] at h4
      obtain ⟨i, -, hi⟩ := List.mem_filterMap.mp h4
      have h6 := List.all_eq_true.mp tf_mW _ h3
      dsimp only at h6
      cases hh : am_al y tb_hhL with
      | none => rw [hh] at h6; cases h6
      | some z =>
        rw [hh] at hi h5
        exact List.mem_filter.mpr ⟨List.mem_of_getElem? hi, h5⟩
    · rw [List.mem_singleton] at h3
      exact absurd (congrArg Prod.fst h3) h2
theorem am_wsg {y : Nat} {v : tb_T} (h : tb_m y = some v) (h2 : y ≠ 88) : GoodIn am_GL (tb_ws y v) := fun w hw => by
  unfold tb_ws at hw
  rcases List.mem_cons.mp hw with rfl | hw
  · exact am_good (am_codew h h2)
  · exact am_good hw
/-- what the tables say of a method -/
theorem am_mf {y : Nat} {n : MethodName} {c : ByteArray} {nL : Nat} {ret : Option FieldType} {o : Nat} {st : Bool} {np : Nat} (h : tb_m y = some (n, c, nL, ret, o, st, np)) (h2 : y ≠ 88) :
    (st = true → Cond.static n ∈ am_GL) ∧ (st = false → Cond.instanceMethod n ∈ am_GL ∧ Cond.selects n.cls n n ∈ am_GL ∧ ∃ q, tb_cl[o]? = some q ∧ q.1 = n.cls) ∧ Cond.initialized n.cls ∈ am_GL ∧ n.cls = tb_cn o ∧ (n.cls ≠ "java/lang/invoke/MethodHandle" ∧ n.cls ≠ "java/lang/invoke/VarHandle") ∧ (parseMethodDescriptor n.desc).map (fun d => d.parameters.length) = some np ∧ plainFor n = true ∧ nL ≤ 14 ∧ (tb_cost y ≠ 0 → st = true) := by
  have h1 := List.all_eq_true.mp tf_m _ (am_al_in h)
  unfold tb_mok at h1
  dsimp only at h1
  cases hp : am_al y tb_mP with
  | none =>
    rw [hp] at h1
    exact absurd (Nat.eq_of_beq_eq_true h1) h2
  | some z =>
    obtain ⟨z1, z2, z3, z4⟩ := z
    rw [hp] at h1
    simp only [Bool.and_eq_true, decide_eq_true_eq] at h1
    obtain ⟨⟨⟨⟨⟨⟨⟨⟨g1, g2⟩, g3⟩, g4⟩, g5⟩, g6⟩, g7⟩, g8⟩, g9⟩ := h1
    refine ⟨fun e => ?_, fun e => ?_, tb_at_in g2, g3, g4, g5, g6, Nat.ble_eq.mp g7, fun hc => ?_⟩
    · subst e; exact tb_at_in g1
    · subst e
      simp only [Bool.and_eq_true] at g1
      refine ⟨tb_at_in g1.1, tb_at_in g1.2, ?_⟩
      dsimp only at g8
      split at g8
      next q e2 => exact ⟨q, e2, of_decide_eq_true g8⟩
      next => cases g8
    · have h3 : am_al y tb_hhL ≠ none := fun q => by
        unfold tb_cost at hc
        split at hc
        next l e =>
          have h4 := List.all_eq_true.mp tf_h _ (am_al_in e)
          dsimp only at h4
          rw [q] at h4
          cases h4
        next => exact hc rfl
      cases hh : am_al y tb_hhL with
      | none => exact absurd hh h3
      | some w => rw [hh] at g9; exact g9
section AMC
variable {p : Program} {l : Launch} {e : Env} {R : Room} {s : State} {m : MethodId} {args : Array Value} {below : List Frame} {meth : Method} {c : Code} {cells slots : Nat} {Z : State → Prop} {cc : ByteArray} {ρ : Nat → Nat} {D : va_G} {cA : Nat → ClassId} {base o nL : Nat} {scr : Option (Int × (Int → Int))}
theorem am_sBr (hx : p.tables.exec = Jvm.exec) (hb : c.code = cc) {ins : Instr} {len pc t : Nat} {lv : am_L} {st st' : List am_V} {M : am_M} {P : List Prop} {b : Prop} (hd : decode cc pc = .ok (ins, len)) (hlen : am_len ins = 0 ∨ len = am_len ins) (h : am_br ins pc st = some (P, b, t, st')) (hp : am_all P)
    (kt : b → am_at_ p l e R s m args below meth c cells slots Z ρ D cA base nL t lv st' M) (kf : ¬ b → am_at_ p l e R s m args below meth c cells slots Z ρ D cA base nL (pc + 3) lv st' M) : am_at_ p l e R s m args below meth c cells slots Z ρ D cA base nL pc lv st M := by
  intro H locs ls hP hS hl
  cases ins with
  | if_icmp cnd off =>
    obtain rfl : len = 3 := hlen.resolve_left (fun q => by cases q)
    dsimp only [am_br] at h
    split at h
    next y x r =>
      obtain ⟨t', e1, e2⟩ := Option.map_eq_some_iff.mp h
      cases e2
      obtain ⟨h1, h2, -⟩ := hp
      cases cnd with
      | eq => exact lv_icmp_eq hx hb hd (am_tg_eq e1) (fun q => kt ((am_eq h1 h2).mp q) H locs ls hP hS hl) (fun q => kf (fun z => q ((am_eq h1 h2).mpr z)) H locs ls hP hS hl)
      | ne => exact lv_icmp_ne hx hb hd (am_tg_eq e1) (fun q => kt (fun z => q ((am_eq h1 h2).mpr z)) H locs ls hP hS hl) (fun q => kf (fun z => z ((am_eq h1 h2).mp q)) H locs ls hP hS hl)
      | lt => exact lv_icmp_lt hx hb hd (am_tg_eq e1) (fun q => kt ((am_lt h1 h2).mp q) H locs ls hP hS hl) (fun q => kf (fun z => q ((am_lt h1 h2).mpr z)) H locs ls hP hS hl)
      | ge => exact lv_icmp_ge hx hb hd (am_tg_eq e1) (fun q => kt ((am_le h2 h1).mp q) H locs ls hP hS hl) (fun q => kf (fun z => q ((am_le h2 h1).mpr z)) H locs ls hP hS hl)
      | gt => exact lv_icmp_gt hx hb hd (am_tg_eq e1) (fun q => kt ((am_lt h2 h1).mp q) H locs ls hP hS hl) (fun q => kf (fun z => q ((am_lt h2 h1).mpr z)) H locs ls hP hS hl)
      | le => exact lv_icmp_le hx hb hd (am_tg_eq e1) (fun q => kt ((am_le h1 h2).mp q) H locs ls hP hS hl) (fun q => kf (fun z => q ((am_le h1 h2).mpr z)) H locs ls hP hS hl)
    next => cases h
  | ifCond cnd off =>
    obtain rfl : len = 3 := hlen.resolve_left (fun q => by cases q)
    dsimp only [am_br] at h
    split at h
    next x r =>
      obtain ⟨t', e1, e2⟩ := Option.map_eq_some_iff.mp h
      cases e2
      obtain ⟨h1, -⟩ := hp
      have h2 := am_rg0
      cases cnd with
      | eq => exact lv_if_eq hx hb hd (am_tg_eq e1) (fun q => kt ((am_eq h1 h2).mp q) H locs ls hP hS hl) (fun q => kf (fun z => q ((am_eq h1 h2).mpr z)) H locs ls hP hS hl)
      | ne => exact lv_if_ne hx hb hd (am_tg_eq e1) (fun q => kt (fun z => q ((am_eq h1 h2).mpr z)) H locs ls hP hS hl) (fun q => kf (fun z => z ((am_eq h1 h2).mp q)) H locs ls hP hS hl)
      | lt => exact lv_if_lt hx hb hd (am_tg_eq e1) (fun q => kt ((am_lt h1 h2).mp q) H locs ls hP hS hl) (fun q => kf (fun z => q ((am_lt h1 h2).mpr z)) H locs ls hP hS hl)
      | ge => exact lv_if_ge hx hb hd (am_tg_eq e1) (fun q => kt ((am_le h2 h1).mp q) H locs ls hP hS hl) (fun q => kf (fun z => q ((am_le h2 h1).mpr z)) H locs ls hP hS hl)
      | gt => exact lv_if_gt hx hb hd (am_tg_eq e1) (fun q => kt ((am_lt h2 h1).mp q) H locs ls hP hS hl) (fun q => kf (fun z => q ((am_lt h2 h1).mpr z)) H locs ls hP hS hl)
      | le => exact lv_if_le hx hb hd (am_tg_eq e1) (fun q => kt ((am_le h1 h2).mp q) H locs ls hP hS hl) (fun q => kf (fun z => q ((am_le h1 h2).mpr z)) H locs ls hP hS hl)
    next => cases h
  | ifnull off =>
    obtain rfl : len = 3 := hlen.resolve_left (fun q => by cases q)
    dsimp only [am_br] at h
    split at h
    next x r =>
      obtain ⟨t', e1, e2⟩ := Option.map_eq_some_iff.mp h
      cases e2
      cases x with
      | none => exact lv_ifnullN hx hb hd (am_tg_eq e1) (kt rfl H locs ls hP hS hl)
      | some x => exact lv_ifnull hx hb hd (kf (fun q => by cases q) H locs ls hP hS hl)
    next => cases h
  | ifnonnull off =>
    obtain rfl : len = 3 := hlen.resolve_left (fun q => by cases q)
    dsimp only [am_br] at h
    split at h
    next x r =>
      obtain ⟨t', e1, e2⟩ := Option.map_eq_some_iff.mp h
      cases e2
      cases x with
      | none => exact lv_ifnonnullN hx hb hd (kf (fun q => q rfl) H locs ls hP hS hl)
      | some x => exact lv_ifnonnull hx hb hd (am_tg_eq e1) (kt (fun q => by cases q) H locs ls hP hS hl)
    next => cases h
  | _ => cases h
theorem am_blind {as : List am_V} {M : am_M} : FrameBlind (am_Pc ρ D cA base as M) := by
  intro a U g mk q
  obtain ⟨q0, q1, q2⟩ := q
  exact ⟨q0, am_env_moved q1 (State.WarmedH.refl U) (fun _ _ _ => rfl), q2⟩
/-- behind a call that returns -/
theorem am_cont {H : Heap} {locs : List Loc} {pc mc ms : Nat} {ls : Array Slot} {st0 rest : List Value} {rs : List am_V} {lv : am_L} {Q : am_Q} {a : Array Value} (hrs : rest = rs.map (am_cv ρ)) (hS : va_S (fun q : Nat => base ≤ q) s.heap H locs) (hl : lv_has ls nL (am_cl ρ lv))
    (hr : va_Run p l e R s m args below meth c H locs cells slots mc ms (F0 m pc ls st0) rest (am_Qc ρ D cA base Q a) (am_free base))
    (kk : ∀ r M', Q r M' → am_at_ p l e R s m args below meth c (cells + mc) (slots + ms) Z ρ D cA base nL (pc + 3) lv (am_push r rs) M') : W p l e R s m args below meth c H locs cells slots Z (F0 m pc ls st0) := by
  intro T hT X
  obtain ⟨v, st₀, t, T', L, h0, X', hL, e1, e2, ⟨⟨r, M', hv, hq, hP1⟩, hz, hk⟩, st⟩ := hr T hT X
  cases hv
  rw [h0] at hz hk
  have hS1 : va_S (fun q : Nat => base ≤ q) s.heap T'.heap (locs ++ L) := ⟨Nat.le_trans hS.1 (by rw [e1]; exact hz), fun q h1 h2 => by rw [e1, hk q (Nat.lt_of_lt_of_le h1 hS.1) h2]; exact hS.2.1 q h1 h2, fun q hq => (List.mem_append.mp hq).elim (hS.2.2 q) (hL q)⟩
  obtain ⟨t2, a1, b1⟩ := kk r M' hq T'.heap (locs ++ L) ls (by rw [e1]; exact hP1) hS1 hl T' rfl X'
  refine ⟨t2, st t2 ?_, b1⟩
  subst hrs
  cases r with
  | none => exact a1
  | some r => exact a1
/-- behind a call that throws -/
theorem am_contX {H : Heap} {locs : List Loc} {pc mc ms : Nat} {ls : Array Slot} {st0 rest : List Value} {QX : am_X} (hS : va_S (fun q : Nat => base ≤ q) s.heap H locs)
    (hr : vx_Run p l e R s m args below meth c H locs cells slots mc ms (F0 m pc ls st0) rest (fun _ _ _ => False) (am_XC ρ D cA base QX) (am_free base))
    (kx : ∀ (E : Nat) (M' : am_M) (H1 : Heap) (locs1 : List Loc) (ce : Cell) (q9 : Addr), E < 3 → QX E M' → va_P D tb_cl (am_ws ρ cA M') H1 → va_S (fun q : Nat => base ≤ q) s.heap H1 locs1 → H1[q9]? = some ce → ce.vm = .none → s.vm.findClass (tb_ex E) = some ce.cls → vx_W p l e R s m args below meth c H1 locs1 (cells + mc) (slots + ms) Z (F0 m pc ls rest) q9) : W p l e R s m args below meth c H locs cells slots Z (F0 m pc ls st0) := by
  intro T hT X
  rcases hr T hT X with ⟨v, st₀, t, T', L, h0, X', hL, e1, e2, hf, st⟩ | ⟨q9, st₀, t, T', L, E, ce, h0, X', hL, e1, e2, ⟨⟨E', M', hE3, rfl, hq, hP1⟩, hz, hk⟩, h5, h6, h7, st⟩
  · exact hf.elim
  · rw [h0] at hz hk
    have hS1 : va_S (fun q : Nat => base ≤ q) s.heap T'.heap (locs ++ L) := ⟨Nat.le_trans hS.1 (by rw [e1]; exact hz), fun q h1 h2 => by rw [e1, hk q (Nat.lt_of_lt_of_le h1 hS.1) h2]; exact hS.2.1 q h1 h2, fun q hq => (List.mem_append.mp hq).elim (hS.2.2 q) (hL q)⟩
    obtain ⟨t2, a1, b1⟩ := kx E' M' T'.heap (locs ++ L) ce q9 hE3 hq (by rw [e1]; exact hP1) hS1 (by rw [e1]; exact h5) h6 h7 T' rfl X'
    exact ⟨t2, st.trans a1, b1⟩
end AMC
