/-! The small machine's values, locals and layout in the machine's. -/
def am_cv (ρ : Nat → Nat) (v : am_V) : Value := match v with
  | .inl x => .int (Int32.ofInt x)
  | .inr (.inl none) => .null
  | .inr (.inl (some k)) => .ref (ρ k)
  | .inr (.inr (.inl x)) => .long (Int64.ofInt x)
  | .inr (.inr (.inr d)) => .double d
theorem am_cat_cv (ρ : Nat → Nat) (v : am_V) : (am_cv ρ v).category = am_cat v := by
  rcases v with x | (_ | k) | x | d <;> rfl
def am_cl (ρ : Nat → Nat) (lv : am_L) : List (Nat × Value) := lv.map (fun q => (q.1, am_cv ρ q.2))
theorem am_cs_cv (ρ : Nat → Nat) : ∀ st : List am_V, ((st.map (am_cv ρ)).map fun v => v.category).sum = am_cs st
  | [] => rfl
  | v :: r => by
    rw [List.map_cons, List.map_cons, List.sum_cons, am_cs_cv ρ r, am_cat_cv]
    rfl
theorem am_at {ρ : Nat → Nat} {ls : Array Slot} {nL i : Nat} {lv : am_L} {v : am_V} (h : lv_has ls nL (am_cl ρ lv)) (hi : am_al i lv = some v) : ls[i]? = some (.val (am_cv ρ v)) :=
  h.2.2 (i, am_cv ρ v) (List.mem_map.mpr ⟨(i, v), am_al_in hi, rfl⟩)
theorem am_sub {ρ : Nat → Nat} {ls : Array Slot} {nL : Nat} {lv lv' : am_L} (h : lv_has ls nL (am_cl ρ lv)) (hs : ∀ q ∈ lv', q ∈ lv) : lv_has ls nL (am_cl ρ lv') := by
  refine ⟨h.1, h.2.1, fun q hq => ?_⟩
  obtain ⟨z, hz, rfl⟩ := List.mem_map.mp hq
  exact h.2.2 _ (List.mem_map.mpr ⟨z, hs z hz, rfl⟩)
theorem am_kl_cv (ρ : Nat → Nat) (i : Nat) (lv : am_L) : am_cl ρ (am_kl i lv) = (am_cl ρ lv).filter (fun q => !(q.1 == i) && !(q.1 + 1 == i && q.2.category == 2)) := by
  unfold am_cl am_kl
  rw [List.filter_map]
  congr 1
  refine List.filter_congr (fun q _ => ?_)
  simp only [Function.comp, am_cat_cv]
theorem am_kl2_cv (ρ : Nat → Nat) (i : Nat) (lv : am_L) : am_cl ρ (am_kl2 i lv) = (am_cl ρ lv).filter (fun q => !(q.1 == i) && (!(q.1 == i + 1) && !(q.1 + 1 == i && q.2.category == 2))) := by
  unfold am_cl am_kl2
  rw [List.filter_map]
  congr 1
  refine List.filter_congr (fun q _ => ?_)
  simp only [Function.comp, am_cat_cv]
theorem am_args_cv (ρ : Nat → Nat) : ∀ (i : Nat) (as : List am_V), am_cl ρ (am_args i as) = lv_args i (as.map (am_cv ρ))
  | _, [] => rfl
  | i, v :: vs => by
    have e : (match am_cat v with | 2 => i + 2 | _ => i + 1) = if (am_cv ρ v).category = 2 then i + 2 else i + 1 := by
      rw [am_cat_cv]
      rcases v with x | (_ | k) | x | d <;> rfl
    show (i, am_cv ρ v) :: am_cl ρ (am_args _ vs) = (i, am_cv ρ v) :: lv_args _ (vs.map (am_cv ρ))
    rw [am_args_cv ρ _ vs]
    exact congrArg (fun z => (i, am_cv ρ v) :: lv_args z (vs.map (am_cv ρ))) e
def am_fs (ρ : Nat → Nat) (M : am_M) (a : Nat) (fk : List (Option Nat)) : List Value := fk.mapIdx (fun j o => match o with
  | none => .int (Int32.ofInt (M a j))
  | some r => .ref (ρ r))
def am_ent (ρ : Nat → Nat) (cA : Nat → ClassId) (M : am_M) (a : Nat) (e : am_E) : va_E := match e with
  | .inl (.inl n) => .inl (cA 0, (n, .inl (fun j => Int32.ofInt (M a j))))
  | .inl (.inr n) => .inl (cA 1, (n, .inr (.inl (fun j => Int64.ofInt (M a j)))))
  | .inr (.inl rs) => .inl (cA 2, (rs.length, .inr (.inr (.inr (.inr (fun j => (rs[j]?).map ρ))))))
  | .inr (.inr (ci, fk)) => .inr (ci, am_fs ρ M a fk)
def am_ws (ρ : Nat → Nat) (cA : Nat → ClassId) (M : am_M) : va_W := tb_lay.mapIdx (fun a e => (ρ a, am_ent ρ cA M a e))
theorem am_ws_at {ρ : Nat → Nat} {cA : Nat → ClassId} {M : am_M} {a : Nat} {e : am_E} (h : tb_lay[a]? = some e) : (am_ws ρ cA M)[a]? = some (ρ a, am_ent ρ cA M a e) := by
  unfold am_ws
  rw [List.getElem?_mapIdx, h]
  rfl
theorem am_ws_in {ρ : Nat → Nat} {cA : Nat → ClassId} {M : am_M} {a : Nat} {q : Nat × va_E} (h : (am_ws ρ cA M)[a]? = some q) : ∃ e, tb_lay[a]? = some e ∧ q = (ρ a, am_ent ρ cA M a e) := by
  unfold am_ws at h
  rw [List.getElem?_mapIdx] at h
  cases he : tb_lay[a]? with
  | none => rw [he] at h; cases h
  | some e =>
    rw [he] at h
    exact ⟨e, rfl, (Option.some.inj h).symm⟩
theorem am_ent_eq {ρ : Nat → Nat} {cA : Nat → ClassId} {M M' : am_M} {a : Nat} (e : am_E) (h : ∀ j, M' a j = M a j) : am_ent ρ cA M' a e = am_ent ρ cA M a e := by
  rcases e with (n | n) | rs | ⟨ci, fk⟩
  · simp only [am_ent, h]
  · simp only [am_ent, h]
  · rfl
  · simp only [am_ent, am_fs, h]
theorem am_ws_set {ρ : Nat → Nat} {cA : Nat → ClassId} {M M' : am_M} {a : Nat} {e : am_E} (he : tb_lay[a]? = some e) (h : ∀ a' j, a' ≠ a → M' a' j = M a' j) : (am_ws ρ cA M).set a (ρ a, am_ent ρ cA M' a e) = am_ws ρ cA M' := by
  have hl : a < (am_ws ρ cA M).length := by
    unfold am_ws
    rw [List.length_mapIdx]
    exact (List.getElem?_eq_some_iff.mp he).1
  refine List.ext_getElem? (fun k => ?_)
  by_cases hk : k = a
  · subst hk
    rw [List.getElem?_set_self hl, am_ws_at he]
  · rw [List.getElem?_set_ne (Ne.symm hk)]
    unfold am_ws
    rw [List.getElem?_mapIdx, List.getElem?_mapIdx]
    cases hz : tb_lay[k]? with
    | none => rfl
    | some z =>
      show some (ρ k, am_ent ρ cA M k z) = some (ρ k, am_ent ρ cA M' k z)
      rw [am_ent_eq z (fun j => h k j hk)]
/-- the addresses are apart, and behind a base -/
def am_ρ (ρ : Nat → Nat) (base : Nat) : Prop := (∀ a b, a < tb_lay.length → b < tb_lay.length → ρ a = ρ b → a = b) ∧ ∀ a, a < tb_lay.length → base ≤ ρ a
theorem am_ρD {ρ : Nat → Nat} {base : Nat} {cA : Nat → ClassId} {M : am_M} (h : am_ρ ρ base) : va_D (fun q : Nat => base ≤ q) (am_ws ρ cA M) := by
  refine ⟨fun i j p q hi hj hpq => ?_, fun k q hk => ?_⟩
  · obtain ⟨e1, h1, rfl⟩ := am_ws_in hi
    obtain ⟨e2, h2, rfl⟩ := am_ws_in hj
    exact h.1 i j (List.getElem?_eq_some_iff.mp h1).1 (List.getElem?_eq_some_iff.mp h2).1 hpq
  · obtain ⟨e1, h1, rfl⟩ := am_ws_in hk
    exact h.2 k (List.getElem?_eq_some_iff.mp h1).1
abbrev am_tys (cA : Nat → ClassId) : List (ClassId × FieldType) := [(cA 0, .int), (cA 1, .byte), (cA 2, .object RX2)]
def tb_cast : List (String × String) := [("java/lang/IllegalArgumentException", "java/lang/IllegalArgumentException"), ("java/lang/IllegalStateException", "java/lang/IllegalStateException"), ("java/lang/IndexOutOfBoundsException", "java/lang/IndexOutOfBoundsException")]
def tb_decl : List MethodName := (lw_tbl.filterMap (fun w => match w with | .declares x => some x | _ => none))
def tb_ex (E : Nat) : String := match E with
  | 0 => "java/lang/IllegalArgumentException"
  | 1 => "java/lang/IllegalStateException"
  | _ => "java/lang/IndexOutOfBoundsException"
/-- what the world beside the cells must give: the classes, the texts, the JDK's two statics -/
def am_env (D : va_G) (cA : Nat → ClassId) (base : Nat) (U : State) (H : Heap) : Prop :=
  va_K D tb_cl (am_tys cA) U ∧ (∀ o k tx, tb_str o k = some tx → ∃ a, vk_R (tb_cn o) k tx a U) ∧ va_Nw tb_nest U ∧ (∀ q ∈ tb_cast, va_Nw (.castable q.1 q.2) U) ∧ (∀ x ∈ tb_decl, va_Nw (.declares x) U) ∧ True ∧
  vx_Zq Bundle.tN "UNASSIGNED_STACK" Bundle.steD (fun q : Nat => base ≤ q) U H ∧ vx_Zq Bundle.tN "SUPPRESSED_SENTINEL" Bundle.listD (fun q : Nat => base ≤ q) U H
theorem am_env_moved {D : va_G} {cA : Nat → ClassId} {base : Nat} {s U : State} {H0 H : Heap} (h : am_env D cA base s H0) (hW : s.WarmedH U.vm) (hq : ∀ a : Nat, a < H0.size → ¬ base ≤ a → H[a]? = H0[a]?) : am_env D cA base U H := by
  obtain ⟨h1, h2, h3, h4, h5, h8, h6, h7⟩ := h
  refine ⟨va_K.moved hW.alike h1, fun o k tx e => ?_, va_Nw.warmM hW h3, fun q hq => va_Nw.warmC hW (h4 q hq), fun x hx => va_Nw.warmD hW (h5 x hx), trivial, vx_Zq.moved hW.alike (h6.kept hq), vx_Zq.moved hW.alike (h7.kept hq)⟩
  obtain ⟨a, ha⟩ := h2 o k tx e
  exact ⟨a, ha.warm hW⟩
