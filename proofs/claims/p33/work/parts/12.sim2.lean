theorem am_ci {o k : Nat} {v : Int} (h : tb_ci o k = some v) : Cond.constant (tb_cn o) k (Int32.ofInt v) ∈ am_GL := by
  unfold tb_ci at h
  split at h
  next v' pos e => cases h; exact tb_at_in (am_al2_all (f := tb_ciok) e tf_ci)
  next => cases h
theorem am_ci2 {o k : Nat} {v : Int} (h : tb_cL o k = some v) : Cond.constantLong (tb_cn o) k (Int64.ofInt v) ∈ am_GL := by
  unfold tb_cL at h
  split at h
  next v' pos e => cases h; exact tb_at_in (am_al2_all (f := tb_clok) e tf_cl)
  next => cases h
theorem am_ci3 {o k : Nat} {v : UInt64} (h : tb_cd o k = some v) : Cond.constantDouble (tb_cn o) k v ∈ am_GL := by
  unfold tb_cd at h
  split at h
  next v' pos e => cases h; exact tb_at_in (am_al2_all (f := tb_cdok) e tf_cd)
  next => cases h
theorem am_macf {o k v : Nat} (h : tb_mac o k = some v) : Cond.methodLink (tb_cn o) k (tb_macn v) ∈ am_GL := by
  unfold tb_mac at h
  split at h
  next v' pos e => cases h; exact tb_at_in (am_al2_all (f := tb_macok) e tf_mac)
  next => cases h
theorem am_ma {w : Cond} (h : w ∈ [Cond.static Lib.Math.max.name, .code Lib.Math.max.name Lib.Math.max.code 2 (some .int), .static Lib.Math.min.name, .code Lib.Math.min.name Lib.Math.min.code 2 (some .int), .static Lib.Math.abs.name, .code Lib.Math.abs.name Lib.Math.abs.code 1 (some .int), .initialized "java/lang/Math",
  .native arraycopyName, .static arraycopyName, .initialized "java/lang/System", .static yL_cell, .code yL_cell cL_cell 2 (some .int), .initialized RL]) : w ∈ am_GL :=
  of_decide_eq_true (List.all_eq_true.mp tf_ma w h)
theorem am_flf {o k ci j t : Nat} (h : tb_fl o k = some (ci, j, t)) : ∃ C T N, tb_cl[ci]? = some (C, T, N) ∧ j < N ∧ Cond.fieldLink (tb_cn o) k (T j).1 (T j).2.1 (T j).2.2.1 ∈ am_GL ∧ (t = 0 → parseFieldDescriptor (T j).2.2.1 = some .int ∧ (T j).2.2.2 = false) ∧ (t = 1 → parseFieldDescriptor (T j).2.2.1 = some .boolean ∧ (T j).2.2.2 = false) := by
  unfold tb_fl at h
  split at h
  next ci' j' t' pos e =>
    cases h
    have h1 := am_al2_all (f := tb_flok) e tf_fl
    unfold tb_flok at h1
    dsimp only at h1
    split at h1
    next C T N e2 =>
      simp only [Bool.and_eq_true] at h1
      obtain ⟨⟨h2, h3⟩, h4⟩ := h1
      refine ⟨C, T, N, e2, Nat.ble_eq.mp h2, tb_at_in h3, fun q => ?_, fun q => ?_⟩
      · subst q
        simp only [Bool.and_eq_true, decide_eq_true_eq, Bool.not_eq_true'] at h4
        exact h4
      · subst q
        simp only [Bool.and_eq_true, decide_eq_true_eq, Bool.not_eq_true'] at h4
        exact h4
    next => cases h1
  next => cases h
theorem am_clf {ci N : Nat} {C : String} {T : u_T} (h : tb_cl[ci]? = some (C, T, N)) : (∀ w ∈ u_ws C T N, w ∈ am_GL) ∧ (∃ ty0 : Nat → FieldType, ∀ k, k < N → parseFieldDescriptor (T k).2.2.1 = some (ty0 k)) ∧ ∀ a, a < N → ∀ b, b < N → a ≠ b → (T a).2.1 ≠ (T b).2.1 := by
  refine ⟨fun w hw => ?_, ?_⟩
  · have h1 := List.all_eq_true.mp tf_clw _ (List.mem_of_getElem? h)
    exact of_decide_eq_true (List.all_eq_true.mp h1 w hw)
  · match ci, h with
    | 0, h => cases h; exact ⟨⟨_, tyX0_ok⟩, nmX0⟩
    | 1, h => cases h; exact ⟨⟨_, tyX1_ok⟩, nmX1⟩
    | 2, h => cases h; exact ⟨⟨_, tyX2_ok⟩, nmX2⟩
    | 3, h => cases h; exact ⟨⟨_, tyX3_ok⟩, nmX3⟩
    | 4, h => cases h; exact ⟨⟨_, tyX4_ok⟩, nmX4⟩
    | 5, h => cases h; exact ⟨⟨_, tyX5_ok⟩, nmX5⟩
    | n + 6, h => cases h
theorem am_bi {n : Int} (h : -128 ≤ n ∧ n ≤ 127) : (Int8.ofInt n).toInt32 = Int32.ofInt n := by
  rw [← Int32.toInt_inj, Int8.toInt_toInt32, Int8.toInt_ofInt, am_toInt (by unfold am_rg; omega)]
  have e : (Int8.size : Int) = 256 := rfl
  simp only [Int.bmod, e]
  omega
theorem am_si {n : Int} (h : -32768 ≤ n ∧ n ≤ 32767) : (Int16.ofInt n).toInt32 = Int32.ofInt n := by
  rw [← Int32.toInt_inj, Int16.toInt_toInt32, Int16.toInt_ofInt, am_toInt (by unfold am_rg; omega)]
  have e : (Int16.size : Int) = 65536 := rfl
  simp only [Int.bmod, e]
  omega
theorem am_ldi_al {i : Nat} {lv : am_L} {x : Int} (h : am_ldi i lv = some x) : am_al i lv = some (.inl x) := by
  unfold am_ldi at h
  split at h
  next y e => cases h; exact e
  next => cases h
theorem am_lda_al {i : Nat} {lv : am_L} {x : Option Nat} (h : am_lda i lv = some x) : am_al i lv = some (.inr (.inl x)) := by
  unfold am_lda at h
  split at h
  next y e => cases h; exact e
  next => cases h
theorem am_ldl_al {i : Nat} {lv : am_L} {x : Int} (h : am_ldl i lv = some x) : am_al i lv = some (.inr (.inr (.inl x))) := by
  unfold am_ldl at h
  split at h
  next y e => cases h; exact e
  next => cases h
theorem am_ldd_al {i : Nat} {lv : am_L} {x : UInt64} (h : am_ldd i lv = some x) : am_al i lv = some (.inr (.inr (.inr x))) := by
  unfold am_ldd at h
  split at h
  next y e => cases h; exact e
  next => cases h
theorem am_st_eq {nL i : Nat} {v : am_V} {lv lv' : am_L} (h : am_st nL i v lv = some lv') : i < nL ∧ lv' = (i, v) :: am_kl i lv := by
  unfold am_st at h
  split at h
  next e => exact ⟨Nat.ble_eq.mp e, (Option.some.inj h).symm⟩
  next => cases h
theorem am_st2_eq {nL i : Nat} {v : am_V} {lv lv' : am_L} (h : am_st2 nL i v lv = some lv') : i + 1 < nL ∧ lv' = (i, v) :: am_kl2 i lv := by
  unfold am_st2 at h
  split at h
  next e => exact ⟨Nat.ble_eq.mp e, (Option.some.inj h).symm⟩
  next => cases h
theorem am_mx {x y : Int} (hx : am_rg x) (hy : am_rg y) : (if Int32.ofInt x < Int32.ofInt y then Int32.ofInt y else Int32.ofInt x) = Int32.ofInt (if x < y then y else x) := by
  by_cases h : x < y
  · rw [if_pos ((am_lt hx hy).mpr h), if_pos h]
  · rw [if_neg (fun q => h ((am_lt hx hy).mp q)), if_neg h]
theorem am_mn {x y : Int} (hx : am_rg x) (hy : am_rg y) : (if Int32.ofInt y < Int32.ofInt x then Int32.ofInt y else Int32.ofInt x) = Int32.ofInt (if y < x then y else x) := by
  by_cases h : y < x
  · rw [if_pos ((am_lt hy hx).mpr h), if_pos h]
  · rw [if_neg (fun q => h ((am_lt hy hx).mp q)), if_neg h]
theorem am_ab {x : Int} (hx : am_rg x) : (if 0 ≤ Int32.ofInt x then Int32.ofInt x else 0 - Int32.ofInt x) = Int32.ofInt (if 0 ≤ x then x else 0 - x) := by
  have h0 : (0 : Int32) = Int32.ofInt 0 := rfl
  rw [h0]
  by_cases h : 0 ≤ x
  · rw [if_pos ((am_le am_rg0 hx).mpr h), if_pos h]
  · rw [if_neg (fun q => h ((am_le am_rg0 hx).mp q)), if_neg h, Int32.ofInt_sub]
/-! The law's cell, by contract. -/
theorem dL_cell_0 : decode cL_cell 0 = .ok (.iload_n 1, 1) := by decide +kernel
theorem dL_cell_1 : decode cL_cell 1 = .ok (.aload_n 0, 1) := by decide +kernel
theorem dL_cell_2 : decode cL_cell 2 = .ok (.arraylength, 1) := by decide +kernel
theorem dL_cell_3 : decode cL_cell 3 = .ok (.if_icmp .ge 9, 3) := by decide +kernel
theorem dL_cell_6 : decode cL_cell 6 = .ok (.aload_n 0, 1) := by decide +kernel
theorem dL_cell_7 : decode cL_cell 7 = .ok (.iload_n 1, 1) := by decide +kernel
theorem dL_cell_8 : decode cL_cell 8 = .ok (.iaload, 1) := by decide +kernel
theorem dL_cell_9 : decode cL_cell 9 = .ok (.goto 11, 3) := by decide +kernel
theorem dL_cell_12 : decode cL_cell 12 = .ok (.ldc 7, 2) := by decide +kernel
theorem dL_cell_14 : decode cL_cell 14 = .ok (.iload_n 1, 1) := by decide +kernel
theorem dL_cell_15 : decode cL_cell 15 = .ok (.imul, 1) := by decide +kernel
theorem dL_cell_16 : decode cL_cell 16 = .ok (.sipush 1117, 3) := by decide +kernel
theorem dL_cell_19 : decode cL_cell 19 = .ok (.iadd, 1) := by decide +kernel
theorem dL_cell_20 : decode cL_cell 20 = .ok (.ldc 8, 2) := by decide +kernel
theorem dL_cell_22 : decode cL_cell 22 = .ok (.iand, 1) := by decide +kernel
theorem dL_cell_23 : decode cL_cell 23 = .ok (.ireturn, 1) := by decide +kernel
theorem cell_words {o k : Nat} (h : Cond.methodLink (tb_cn o) k (tb_macn 5) ∈ am_GL) : GoodIn am_GL (va_wsS (tb_cn o) k yL_cell (Cond.code yL_cell cL_cell 2 (some .int) :: am_GL)) := fun w hw => by
  have g : ∀ w ∈ am_GL, w ∈ am_GL ∧ ((w.onTables && w.keeps) = true ∨ ∃ ty, w = .arrayClass ty) := fun w h => ⟨h, good_of_word (List.mem_filter.mp h).2⟩
  unfold va_wsS at hw
  rcases List.mem_append.mp hw with hw | hw
  · rcases List.mem_cons.mp hw with rfl | hw
    · exact g _ h
    · rcases List.mem_cons.mp hw with rfl | hw
      · exact g _ (am_ma (by simp))
      · rw [List.mem_singleton] at hw; subst hw; exact g _ (am_ma (by simp [yL_cell]))
  · rcases List.mem_cons.mp hw with rfl | hw
    · exact g _ (am_ma (by simp))
    · exact g _ hw
set_option maxHeartbeats 1000000 in
theorem cc_cell (l : Launch) {b n : Nat} {f : Nat → Int32} {xs : Int → Int} {k : Int} (hn : n < 2 ^ 31) (hk : am_rg k) (hk0 : 0 ≤ k) (hf : ∀ j : Nat, j < n → Int32.ofInt (xs j) = f j) : Met l yL_cell (Cond.code yL_cell cL_cell 2 (some .int) :: am_GL) ({ frames := 0, cells := 0, slots := 0, locals := 0 }) (va_Pc [.ref b, .int (Int32.ofInt k)] (fun U => va_X b n f U U.heap))
    (va_Qi (fun x (_ : Unit) => x = (Int32.ofInt (if k < (n : Int) then xs k else 15556717 * k + 1117) &&& Int32.ofInt 2147483647)) (fun _ _ => True) (fun _ => False)) 0 0 (fun _ => False) := by
  refine Met.ofW (cc := cL_cell) (maxL := 2) (ret := some .int) (by decide) rfl ?_
  intro p e s m args below meth c s₁ B hml hv
  obtain ⟨rfl, hX⟩ := hv
  have hx := B.exec
  have hb := B.bytes
  have hr := B.returns
  have hts := atoms_spec (ws := Cond.code yL_cell cL_cell 2 (some .int) :: am_GL) B.pre
  have hown : s.vm.findClass RL = some m.cls := findClass_of_methodNamed B.named
  have hlocks := B.notSynchronized
  have hbl : b < s.heap.size := by
    obtain ⟨scr, h1, -⟩ := hX
    exact (Array.getElem?_eq_some_iff.mp h1).1
  have hS : va_S (fun _ : Nat => False) s.heap s.heap [] := va_S.rf
  have hl := lv_entry ([.ref b, .int (Int32.ofInt k)]) (n := 2) (Nat.le_of_ble_eq_true rfl)
  rw [lg_entry_eq]
  generalize (lg_sl ([.ref b, .int (Int32.ofInt k)]) ++ List.replicate (2 - (lg_sl ([.ref b, .int (Int32.ofInt k)])).length) Slot.unset).toArray = ls at hl ⊢
  have hl : lv_has ls 2 [(0, .ref b), (1, .int (Int32.ofInt k))] := hl
  have hnr : am_rg (n : Int) := by unfold am_rg; omega
  have fin : ∀ z : Int, z = (if k < (n : Int) then xs k else 15556717 * k + 1117) → W p l e ({ frames := 0, cells := 0, slots := 0, locals := 0 }) s m ([Value.ref b, Value.int (Int32.ofInt k)]).toArray below meth c s.heap [] 0 0 (MQ below (va_Qi (fun x (_ : Unit) => x = (Int32.ofInt (if k < (n : Int) then xs k else 15556717 * k + 1117) &&& Int32.ofInt 2147483647)) (fun _ _ => True) (fun _ => False)) ([Value.ref b, Value.int (Int32.ofInt k)]).toArray s 0 0 (fun _ => False)) (F0 m 20 ls [.int (Int32.ofInt z)]) := fun z hz => by
    refine lv_ldc hx hb hown (hts _ (List.mem_cons_of_mem _ (am_ci (o := 9) (k := 8) (v := 2147483647) rfl))) dL_cell_20 ?_
    refine lv_iand hx hb dL_cell_22 ?_
    exact W.iret hx hb hr (fun t ht _ => ⟨⟨_, (), rfl, by rw [hz], trivial⟩, hS.F ht⟩) hS.2.2 dL_cell_23 hlocks
  refine lv_iload_n hx hb dL_cell_0 rfl (lv_at hl 1 rfl) ?_
  refine lv_aload_n hx hb dL_cell_1 rfl (lv_at hl 0 rfl) ?_
  refine va_slen hx hb hX hbl (fun h => h) hS dL_cell_2 ?_
  refine lv_icmp_ge (tgt := 12) hx hb dL_cell_3 rfl (fun q => ?_) (fun q => ?_)
  · have q2 : (n : Int) ≤ k := (am_le hnr hk).mp q
    refine lv_ldc hx hb hown (hts _ (List.mem_cons_of_mem _ (am_ci (o := 9) (k := 7) (v := 15556717) rfl))) dL_cell_12 ?_
    refine lv_iload_n hx hb dL_cell_14 rfl (lv_at hl 1 rfl) ?_
    refine lv_imul hx hb dL_cell_15 ?_
    refine lv_sipush (v := Int32.ofInt 1117) hx hb dL_cell_16 (by decide) ?_
    refine lv_iadd hx hb dL_cell_19 ?_
    rw [← Int32.ofInt_mul, ← Int32.ofInt_add]
    exact fin _ (by rw [if_neg (by omega)])
  · have q2 : k < (n : Int) := Int.not_le.mp (fun z => q ((am_le hnr hk).mpr z))
    refine lv_aload_n hx hb dL_cell_6 rfl (lv_at hl 0 rfl) ?_
    refine lv_iload_n hx hb dL_cell_7 rfl (lv_at hl 1 rfl) ?_
    obtain ⟨v1, v2⟩ := am_vpin hn ⟨hk0, q2⟩
    refine va_sld hx hb hX hbl (fun h => h) hS v1 dL_cell_8 ?_
    refine lv_goto (tgt := 20) hx hb dL_cell_9 rfl ?_
    rw [v2, ← hf k.toNat (by omega), show ((k.toNat : Nat) : Int) = k from Int.toNat_of_nonneg hk0]
    exact fin _ (by rw [if_pos q2])
section AMS2
variable {p : Program} {l : Launch} {e : Env} {R : Room} {s : State} {m : MethodId} {args : Array Value} {below : List Frame} {meth : Method} {c : Code} {cells slots : Nat} {Z : State → Prop} {cc : ByteArray} {ρ : Nat → Nat} {D : va_G} {cA : Nat → ClassId} {base o nL : Nat} {scr : Option (Int × (Int → Int))}

set_option maxHeartbeats 1000000 in
theorem am_s_iconst (F : am_fix p s m args c cc R cells slots ρ D cA base o nL scr) (n : Int) {len pc : Nat} {lv : am_L} {st : List am_V} {M : am_M} {r : List Prop × Nat × am_L × List am_V × am_M} (hd : decode cc pc = .ok (.iconst n, len)) (hlen : am_len (.iconst n) = 0 ∨ len = am_len (.iconst n)) (h : am_s1 o nL scr (.iconst n) pc lv st M = some r) (hp : am_all r.1)
    (k : am_at_ p l e R s m args below meth c cells slots Z ρ D cA base nL r.2.1 r.2.2.1 r.2.2.2.1 r.2.2.2.2) : am_at_ p l e R s m args below meth c cells slots Z ρ D cA base nL pc lv st M := by
  obtain ⟨hx, hb, hml, hts, hown, hρ, hE, hRf, hRl, hRc, hRs, hnL, hscr⟩ := F
  obtain ⟨hK, hstr, hnest, hcast, hdecl, hnc, hU, hN⟩ := hE
  intro H locs ls hP hS hl
  have hD := am_ρD (cA := cA) (M := M) hρ
  obtain rfl : len = 1 := hlen.resolve_left (fun q => by cases q)
  dsimp only [am_s1] at h
  cases h
  exact lv_iconst hx hb hd rfl (k H locs ls hP hS hl)
set_option maxHeartbeats 1000000 in
theorem am_s_bipush (F : am_fix p s m args c cc R cells slots ρ D cA base o nL scr) (n : Int) {len pc : Nat} {lv : am_L} {st : List am_V} {M : am_M} {r : List Prop × Nat × am_L × List am_V × am_M} (hd : decode cc pc = .ok (.bipush n, len)) (hlen : am_len (.bipush n) = 0 ∨ len = am_len (.bipush n)) (h : am_s1 o nL scr (.bipush n) pc lv st M = some r) (hp : am_all r.1)
    (k : am_at_ p l e R s m args below meth c cells slots Z ρ D cA base nL r.2.1 r.2.2.1 r.2.2.2.1 r.2.2.2.2) : am_at_ p l e R s m args below meth c cells slots Z ρ D cA base nL pc lv st M := by
  obtain ⟨hx, hb, hml, hts, hown, hρ, hE, hRf, hRl, hRc, hRs, hnL, hscr⟩ := F
  obtain ⟨hK, hstr, hnest, hcast, hdecl, hnc, hU, hN⟩ := hE
  intro H locs ls hP hS hl
  have hD := am_ρD (cA := cA) (M := M) hρ
  obtain rfl : len = 2 := hlen.resolve_left (fun q => by cases q)
  dsimp only [am_s1] at h
  cases h
  exact lv_bipush hx hb hd (am_bi hp.1) (k H locs ls hP hS hl)
set_option maxHeartbeats 1000000 in
theorem am_s_sipush (F : am_fix p s m args c cc R cells slots ρ D cA base o nL scr) (n : Int) {len pc : Nat} {lv : am_L} {st : List am_V} {M : am_M} {r : List Prop × Nat × am_L × List am_V × am_M} (hd : decode cc pc = .ok (.sipush n, len)) (hlen : am_len (.sipush n) = 0 ∨ len = am_len (.sipush n)) (h : am_s1 o nL scr (.sipush n) pc lv st M = some r) (hp : am_all r.1)
    (k : am_at_ p l e R s m args below meth c cells slots Z ρ D cA base nL r.2.1 r.2.2.1 r.2.2.2.1 r.2.2.2.2) : am_at_ p l e R s m args below meth c cells slots Z ρ D cA base nL pc lv st M := by
  obtain ⟨hx, hb, hml, hts, hown, hρ, hE, hRf, hRl, hRc, hRs, hnL, hscr⟩ := F
  obtain ⟨hK, hstr, hnest, hcast, hdecl, hnc, hU, hN⟩ := hE
  intro H locs ls hP hS hl
  have hD := am_ρD (cA := cA) (M := M) hρ
  obtain rfl : len = 3 := hlen.resolve_left (fun q => by cases q)
  dsimp only [am_s1] at h
  cases h
  exact lv_sipush hx hb hd (am_si hp.1) (k H locs ls hP hS hl)
set_option maxHeartbeats 1000000 in
theorem am_s_lconst (F : am_fix p s m args c cc R cells slots ρ D cA base o nL scr) (n : Fin 2) {len pc : Nat} {lv : am_L} {st : List am_V} {M : am_M} {r : List Prop × Nat × am_L × List am_V × am_M} (hd : decode cc pc = .ok (.lconst n, len)) (hlen : am_len (.lconst n) = 0 ∨ len = am_len (.lconst n)) (h : am_s1 o nL scr (.lconst n) pc lv st M = some r) (hp : am_all r.1)
    (k : am_at_ p l e R s m args below meth c cells slots Z ρ D cA base nL r.2.1 r.2.2.1 r.2.2.2.1 r.2.2.2.2) : am_at_ p l e R s m args below meth c cells slots Z ρ D cA base nL pc lv st M := by
  obtain ⟨hx, hb, hml, hts, hown, hρ, hE, hRf, hRl, hRc, hRs, hnL, hscr⟩ := F
  obtain ⟨hK, hstr, hnest, hcast, hdecl, hnc, hU, hN⟩ := hE
  intro H locs ls hP hS hl
  have hD := am_ρD (cA := cA) (M := M) hρ
  obtain rfl : len = 1 := hlen.resolve_left (fun q => by cases q)
  dsimp only [am_s1] at h
  cases h
  exact lv_lconst hx hb hd rfl (k H locs ls hP hS hl)
set_option maxHeartbeats 1000000 in
theorem am_s_dconst (F : am_fix p s m args c cc R cells slots ρ D cA base o nL scr) (n : Fin 2) {len pc : Nat} {lv : am_L} {st : List am_V} {M : am_M} {r : List Prop × Nat × am_L × List am_V × am_M} (hd : decode cc pc = .ok (.dconst n, len)) (hlen : am_len (.dconst n) = 0 ∨ len = am_len (.dconst n)) (h : am_s1 o nL scr (.dconst n) pc lv st M = some r) (hp : am_all r.1)
    (k : am_at_ p l e R s m args below meth c cells slots Z ρ D cA base nL r.2.1 r.2.2.1 r.2.2.2.1 r.2.2.2.2) : am_at_ p l e R s m args below meth c cells slots Z ρ D cA base nL pc lv st M := by
  obtain ⟨hx, hb, hml, hts, hown, hρ, hE, hRf, hRl, hRc, hRs, hnL, hscr⟩ := F
  obtain ⟨hK, hstr, hnest, hcast, hdecl, hnc, hU, hN⟩ := hE
  intro H locs ls hP hS hl
  have hD := am_ρD (cA := cA) (M := M) hρ
  obtain rfl : len = 1 := hlen.resolve_left (fun q => by cases q)
  dsimp only [am_s1] at h
  cases h
  match n, hd, k with
  | 0, hd, k => exact lv_dconst0 hx hb hd (k H locs ls hP hS hl)
  | 1, hd, k => exact lv_dconst1 hx hb hd (k H locs ls hP hS hl)
set_option maxHeartbeats 1000000 in
theorem am_s_aconst_null (F : am_fix p s m args c cc R cells slots ρ D cA base o nL scr)  {len pc : Nat} {lv : am_L} {st : List am_V} {M : am_M} {r : List Prop × Nat × am_L × List am_V × am_M} (hd : decode cc pc = .ok (.aconst_null, len)) (hlen : am_len (.aconst_null) = 0 ∨ len = am_len (.aconst_null)) (h : am_s1 o nL scr (.aconst_null) pc lv st M = some r) (hp : am_all r.1)
    (k : am_at_ p l e R s m args below meth c cells slots Z ρ D cA base nL r.2.1 r.2.2.1 r.2.2.2.1 r.2.2.2.2) : am_at_ p l e R s m args below meth c cells slots Z ρ D cA base nL pc lv st M := by
  obtain ⟨hx, hb, hml, hts, hown, hρ, hE, hRf, hRl, hRc, hRs, hnL, hscr⟩ := F
  obtain ⟨hK, hstr, hnest, hcast, hdecl, hnc, hU, hN⟩ := hE
  intro H locs ls hP hS hl
  have hD := am_ρD (cA := cA) (M := M) hρ
  obtain rfl : len = 1 := hlen.resolve_left (fun q => by cases q)
  dsimp only [am_s1] at h
  cases h
  exact lv_null hx hb hd (k H locs ls hP hS hl)
set_option maxHeartbeats 1000000 in
theorem am_s_ldc (F : am_fix p s m args c cc R cells slots ρ D cA base o nL scr) (i : Nat) {len pc : Nat} {lv : am_L} {st : List am_V} {M : am_M} {r : List Prop × Nat × am_L × List am_V × am_M} (hd : decode cc pc = .ok (.ldc i, len)) (hlen : am_len (.ldc i) = 0 ∨ len = am_len (.ldc i)) (h : am_s1 o nL scr (.ldc i) pc lv st M = some r) (hp : am_all r.1)
    (k : am_at_ p l e R s m args below meth c cells slots Z ρ D cA base nL r.2.1 r.2.2.1 r.2.2.2.1 r.2.2.2.2) : am_at_ p l e R s m args below meth c cells slots Z ρ D cA base nL pc lv st M := by
  obtain ⟨hx, hb, hml, hts, hown, hρ, hE, hRf, hRl, hRc, hRs, hnL, hscr⟩ := F
  obtain ⟨hK, hstr, hnest, hcast, hdecl, hnc, hU, hN⟩ := hE
  intro H locs ls hP hS hl
  have hD := am_ρD (cA := cA) (M := M) hρ
  obtain rfl : len = 2 := hlen.resolve_left (fun q => by cases q)
  dsimp only [am_s1] at h
  cases hc : tb_ci o i with
  | none => rw [hc] at h; cases h
  | some v => rw [hc] at h; cases h; exact lv_ldc hx hb hown (hts _ (am_ci hc)) hd (k H locs ls hP hS hl)
set_option maxHeartbeats 1000000 in
theorem am_s_ldc2_w (F : am_fix p s m args c cc R cells slots ρ D cA base o nL scr) (i : Nat) {len pc : Nat} {lv : am_L} {st : List am_V} {M : am_M} {r : List Prop × Nat × am_L × List am_V × am_M} (hd : decode cc pc = .ok (.ldc2_w i, len)) (hlen : am_len (.ldc2_w i) = 0 ∨ len = am_len (.ldc2_w i)) (h : am_s1 o nL scr (.ldc2_w i) pc lv st M = some r) (hp : am_all r.1)
    (k : am_at_ p l e R s m args below meth c cells slots Z ρ D cA base nL r.2.1 r.2.2.1 r.2.2.2.1 r.2.2.2.2) : am_at_ p l e R s m args below meth c cells slots Z ρ D cA base nL pc lv st M := by
  obtain ⟨hx, hb, hml, hts, hown, hρ, hE, hRf, hRl, hRc, hRs, hnL, hscr⟩ := F
  obtain ⟨hK, hstr, hnest, hcast, hdecl, hnc, hU, hN⟩ := hE
  intro H locs ls hP hS hl
  have hD := am_ρD (cA := cA) (M := M) hρ
  obtain rfl : len = 3 := hlen.resolve_left (fun q => by cases q)
  dsimp only [am_s1] at h
  cases hc : tb_cL o i with
  | some v => rw [hc] at h; cases h; exact lv_ldc2 hx hb hown (hts _ (am_ci2 hc)) hd (k H locs ls hP hS hl)
  | none =>
    rw [hc] at h
    cases hc2 : tb_cd o i with
    | some v => rw [hc2] at h; cases h; exact lv_ldc2d hx hb hown (hts _ (am_ci3 hc2)) hd (k H locs ls hP hS hl)
    | none => rw [hc2] at h; cases h
set_option maxHeartbeats 1000000 in
theorem am_s_iload (F : am_fix p s m args c cc R cells slots ρ D cA base o nL scr) (i : Nat) {len pc : Nat} {lv : am_L} {st : List am_V} {M : am_M} {r : List Prop × Nat × am_L × List am_V × am_M} (hd : decode cc pc = .ok (.iload i, len)) (hlen : am_len (.iload i) = 0 ∨ len = am_len (.iload i)) (h : am_s1 o nL scr (.iload i) pc lv st M = some r) (hp : am_all r.1)
    (k : am_at_ p l e R s m args below meth c cells slots Z ρ D cA base nL r.2.1 r.2.2.1 r.2.2.2.1 r.2.2.2.2) : am_at_ p l e R s m args below meth c cells slots Z ρ D cA base nL pc lv st M := by
  obtain ⟨hx, hb, hml, hts, hown, hρ, hE, hRf, hRl, hRc, hRs, hnL, hscr⟩ := F
  obtain ⟨hK, hstr, hnest, hcast, hdecl, hnc, hU, hN⟩ := hE
  intro H locs ls hP hS hl
  have hD := am_ρD (cA := cA) (M := M) hρ
  obtain rfl : len = 2 := hlen.resolve_left (fun q => by cases q)
  dsimp only [am_s1] at h
  cases hc : am_ldi i lv with
  | none => rw [hc] at h; cases h
  | some v => rw [hc] at h; cases h; exact lv_iload hx hb hd (am_at hl (am_ldi_al hc)) (k H locs ls hP hS hl)
set_option maxHeartbeats 1000000 in
theorem am_s_iload_n (F : am_fix p s m args c cc R cells slots ρ D cA base o nL scr) (i : Fin 4) {len pc : Nat} {lv : am_L} {st : List am_V} {M : am_M} {r : List Prop × Nat × am_L × List am_V × am_M} (hd : decode cc pc = .ok (.iload_n i, len)) (hlen : am_len (.iload_n i) = 0 ∨ len = am_len (.iload_n i)) (h : am_s1 o nL scr (.iload_n i) pc lv st M = some r) (hp : am_all r.1)
    (k : am_at_ p l e R s m args below meth c cells slots Z ρ D cA base nL r.2.1 r.2.2.1 r.2.2.2.1 r.2.2.2.2) : am_at_ p l e R s m args below meth c cells slots Z ρ D cA base nL pc lv st M := by
  obtain ⟨hx, hb, hml, hts, hown, hρ, hE, hRf, hRl, hRc, hRs, hnL, hscr⟩ := F
  obtain ⟨hK, hstr, hnest, hcast, hdecl, hnc, hU, hN⟩ := hE
  intro H locs ls hP hS hl
  have hD := am_ρD (cA := cA) (M := M) hρ
  obtain rfl : len = 1 := hlen.resolve_left (fun q => by cases q)
  dsimp only [am_s1] at h
  cases hc : am_ldi i.val lv with
  | none => rw [hc] at h; cases h
  | some v => rw [hc] at h; cases h; exact lv_iload_n hx hb hd rfl (am_at hl (am_ldi_al hc)) (k H locs ls hP hS hl)
set_option maxHeartbeats 1000000 in
theorem am_s_lload (F : am_fix p s m args c cc R cells slots ρ D cA base o nL scr) (i : Nat) {len pc : Nat} {lv : am_L} {st : List am_V} {M : am_M} {r : List Prop × Nat × am_L × List am_V × am_M} (hd : decode cc pc = .ok (.lload i, len)) (hlen : am_len (.lload i) = 0 ∨ len = am_len (.lload i)) (h : am_s1 o nL scr (.lload i) pc lv st M = some r) (hp : am_all r.1)
    (k : am_at_ p l e R s m args below meth c cells slots Z ρ D cA base nL r.2.1 r.2.2.1 r.2.2.2.1 r.2.2.2.2) : am_at_ p l e R s m args below meth c cells slots Z ρ D cA base nL pc lv st M := by
  obtain ⟨hx, hb, hml, hts, hown, hρ, hE, hRf, hRl, hRc, hRs, hnL, hscr⟩ := F
  obtain ⟨hK, hstr, hnest, hcast, hdecl, hnc, hU, hN⟩ := hE
  intro H locs ls hP hS hl
  have hD := am_ρD (cA := cA) (M := M) hρ
  obtain rfl : len = 2 := hlen.resolve_left (fun q => by cases q)
  dsimp only [am_s1] at h
  cases hc : am_ldl i lv with
  | none => rw [hc] at h; cases h
  | some v => rw [hc] at h; cases h; exact lv_lload hx hb hd (am_at hl (am_ldl_al hc)) (k H locs ls hP hS hl)
set_option maxHeartbeats 1000000 in
theorem am_s_lload_n (F : am_fix p s m args c cc R cells slots ρ D cA base o nL scr) (i : Fin 4) {len pc : Nat} {lv : am_L} {st : List am_V} {M : am_M} {r : List Prop × Nat × am_L × List am_V × am_M} (hd : decode cc pc = .ok (.lload_n i, len)) (hlen : am_len (.lload_n i) = 0 ∨ len = am_len (.lload_n i)) (h : am_s1 o nL scr (.lload_n i) pc lv st M = some r) (hp : am_all r.1)
    (k : am_at_ p l e R s m args below meth c cells slots Z ρ D cA base nL r.2.1 r.2.2.1 r.2.2.2.1 r.2.2.2.2) : am_at_ p l e R s m args below meth c cells slots Z ρ D cA base nL pc lv st M := by
  obtain ⟨hx, hb, hml, hts, hown, hρ, hE, hRf, hRl, hRc, hRs, hnL, hscr⟩ := F
  obtain ⟨hK, hstr, hnest, hcast, hdecl, hnc, hU, hN⟩ := hE
  intro H locs ls hP hS hl
  have hD := am_ρD (cA := cA) (M := M) hρ
  obtain rfl : len = 1 := hlen.resolve_left (fun q => by cases q)
  dsimp only [am_s1] at h
  cases hc : am_ldl i.val lv with
  | none => rw [hc] at h; cases h
  | some v => rw [hc] at h; cases h; exact lv_lload_n hx hb hd rfl (am_at hl (am_ldl_al hc)) (k H locs ls hP hS hl)
set_option maxHeartbeats 1000000 in
theorem am_s_dload (F : am_fix p s m args c cc R cells slots ρ D cA base o nL scr) (i : Nat) {len pc : Nat} {lv : am_L} {st : List am_V} {M : am_M} {r : List Prop × Nat × am_L × List am_V × am_M} (hd : decode cc pc = .ok (.dload i, len)) (hlen : am_len (.dload i) = 0 ∨ len = am_len (.dload i)) (h : am_s1 o nL scr (.dload i) pc lv st M = some r) (hp : am_all r.1)
    (k : am_at_ p l e R s m args below meth c cells slots Z ρ D cA base nL r.2.1 r.2.2.1 r.2.2.2.1 r.2.2.2.2) : am_at_ p l e R s m args below meth c cells slots Z ρ D cA base nL pc lv st M := by
  obtain ⟨hx, hb, hml, hts, hown, hρ, hE, hRf, hRl, hRc, hRs, hnL, hscr⟩ := F
  obtain ⟨hK, hstr, hnest, hcast, hdecl, hnc, hU, hN⟩ := hE
  intro H locs ls hP hS hl
  have hD := am_ρD (cA := cA) (M := M) hρ
  obtain rfl : len = 2 := hlen.resolve_left (fun q => by cases q)
  dsimp only [am_s1] at h
  cases hc : am_ldd i lv with
  | none => rw [hc] at h; cases h
  | some v => rw [hc] at h; cases h; exact lv_dload hx hb hd (am_at hl (am_ldd_al hc)) (k H locs ls hP hS hl)
set_option maxHeartbeats 1000000 in
theorem am_s_dload_n (F : am_fix p s m args c cc R cells slots ρ D cA base o nL scr) (i : Fin 4) {len pc : Nat} {lv : am_L} {st : List am_V} {M : am_M} {r : List Prop × Nat × am_L × List am_V × am_M} (hd : decode cc pc = .ok (.dload_n i, len)) (hlen : am_len (.dload_n i) = 0 ∨ len = am_len (.dload_n i)) (h : am_s1 o nL scr (.dload_n i) pc lv st M = some r) (hp : am_all r.1)
    (k : am_at_ p l e R s m args below meth c cells slots Z ρ D cA base nL r.2.1 r.2.2.1 r.2.2.2.1 r.2.2.2.2) : am_at_ p l e R s m args below meth c cells slots Z ρ D cA base nL pc lv st M := by
  obtain ⟨hx, hb, hml, hts, hown, hρ, hE, hRf, hRl, hRc, hRs, hnL, hscr⟩ := F
  obtain ⟨hK, hstr, hnest, hcast, hdecl, hnc, hU, hN⟩ := hE
  intro H locs ls hP hS hl
  have hD := am_ρD (cA := cA) (M := M) hρ
  obtain rfl : len = 1 := hlen.resolve_left (fun q => by cases q)
  dsimp only [am_s1] at h
  cases hc : am_ldd i.val lv with
  | none => rw [hc] at h; cases h
  | some v => rw [hc] at h; cases h; exact lv_dload_n hx hb hd rfl (am_at hl (am_ldd_al hc)) (k H locs ls hP hS hl)
set_option maxHeartbeats 1000000 in
theorem am_s_aload (F : am_fix p s m args c cc R cells slots ρ D cA base o nL scr) (i : Nat) {len pc : Nat} {lv : am_L} {st : List am_V} {M : am_M} {r : List Prop × Nat × am_L × List am_V × am_M} (hd : decode cc pc = .ok (.aload i, len)) (hlen : am_len (.aload i) = 0 ∨ len = am_len (.aload i)) (h : am_s1 o nL scr (.aload i) pc lv st M = some r) (hp : am_all r.1)
    (k : am_at_ p l e R s m args below meth c cells slots Z ρ D cA base nL r.2.1 r.2.2.1 r.2.2.2.1 r.2.2.2.2) : am_at_ p l e R s m args below meth c cells slots Z ρ D cA base nL pc lv st M := by
  obtain ⟨hx, hb, hml, hts, hown, hρ, hE, hRf, hRl, hRc, hRs, hnL, hscr⟩ := F
  obtain ⟨hK, hstr, hnest, hcast, hdecl, hnc, hU, hN⟩ := hE
  intro H locs ls hP hS hl
  have hD := am_ρD (cA := cA) (M := M) hρ
  obtain rfl : len = 2 := hlen.resolve_left (fun q => by cases q)
  dsimp only [am_s1] at h
  cases hc : am_lda i lv with
  | none => rw [hc] at h; cases h
  | some v =>
    rw [hc] at h; cases h
    have ha := am_at hl (am_lda_al hc)
    cases v with
    | none => exact lv_aloadN hx hb hd ha (k H locs ls hP hS hl)
    | some v => exact lv_aload hx hb hd ha (k H locs ls hP hS hl)
set_option maxHeartbeats 1000000 in
theorem am_s_aload_n (F : am_fix p s m args c cc R cells slots ρ D cA base o nL scr) (i : Fin 4) {len pc : Nat} {lv : am_L} {st : List am_V} {M : am_M} {r : List Prop × Nat × am_L × List am_V × am_M} (hd : decode cc pc = .ok (.aload_n i, len)) (hlen : am_len (.aload_n i) = 0 ∨ len = am_len (.aload_n i)) (h : am_s1 o nL scr (.aload_n i) pc lv st M = some r) (hp : am_all r.1)
    (k : am_at_ p l e R s m args below meth c cells slots Z ρ D cA base nL r.2.1 r.2.2.1 r.2.2.2.1 r.2.2.2.2) : am_at_ p l e R s m args below meth c cells slots Z ρ D cA base nL pc lv st M := by
  obtain ⟨hx, hb, hml, hts, hown, hρ, hE, hRf, hRl, hRc, hRs, hnL, hscr⟩ := F
  obtain ⟨hK, hstr, hnest, hcast, hdecl, hnc, hU, hN⟩ := hE
  intro H locs ls hP hS hl
  have hD := am_ρD (cA := cA) (M := M) hρ
  obtain rfl : len = 1 := hlen.resolve_left (fun q => by cases q)
  dsimp only [am_s1] at h
  cases hc : am_lda i.val lv with
  | none => rw [hc] at h; cases h
  | some v =>
    rw [hc] at h; cases h
    have ha := am_at hl (am_lda_al hc)
    cases v with
    | none => exact lv_aload_nN hx hb hd rfl ha (k H locs ls hP hS hl)
    | some v => exact lv_aload_n hx hb hd rfl ha (k H locs ls hP hS hl)
set_option maxHeartbeats 1000000 in
theorem am_s_istore (F : am_fix p s m args c cc R cells slots ρ D cA base o nL scr) (i : Nat) {len pc : Nat} {lv : am_L} {st : List am_V} {M : am_M} {r : List Prop × Nat × am_L × List am_V × am_M} (hd : decode cc pc = .ok (.istore i, len)) (hlen : am_len (.istore i) = 0 ∨ len = am_len (.istore i)) (h : am_s1 o nL scr (.istore i) pc lv st M = some r) (hp : am_all r.1)
    (k : am_at_ p l e R s m args below meth c cells slots Z ρ D cA base nL r.2.1 r.2.2.1 r.2.2.2.1 r.2.2.2.2) : am_at_ p l e R s m args below meth c cells slots Z ρ D cA base nL pc lv st M := by
  obtain ⟨hx, hb, hml, hts, hown, hρ, hE, hRf, hRl, hRc, hRs, hnL, hscr⟩ := F
  obtain ⟨hK, hstr, hnest, hcast, hdecl, hnc, hU, hN⟩ := hE
  intro H locs ls hP hS hl
  have hD := am_ρD (cA := cA) (M := M) hρ
  obtain rfl : len = 2 := hlen.resolve_left (fun q => by cases q)
  dsimp only [am_s1] at h
  unfold am_sti at h
  split at h
  next x r =>
    obtain ⟨lv', e1, e2⟩ := Option.map_eq_some_iff.mp h
    obtain ⟨hi, rfl⟩ := am_st_eq e1
    cases e2
    exact lv_istore hx hb hd hl hi (by rw [← am_kl_cv]; rfl) (fun ls' hl' => k H locs ls' hP hS hl')
  next => cases h
set_option maxHeartbeats 1000000 in
theorem am_s_istore_n (F : am_fix p s m args c cc R cells slots ρ D cA base o nL scr) (i : Fin 4) {len pc : Nat} {lv : am_L} {st : List am_V} {M : am_M} {r : List Prop × Nat × am_L × List am_V × am_M} (hd : decode cc pc = .ok (.istore_n i, len)) (hlen : am_len (.istore_n i) = 0 ∨ len = am_len (.istore_n i)) (h : am_s1 o nL scr (.istore_n i) pc lv st M = some r) (hp : am_all r.1)
    (k : am_at_ p l e R s m args below meth c cells slots Z ρ D cA base nL r.2.1 r.2.2.1 r.2.2.2.1 r.2.2.2.2) : am_at_ p l e R s m args below meth c cells slots Z ρ D cA base nL pc lv st M := by
  obtain ⟨hx, hb, hml, hts, hown, hρ, hE, hRf, hRl, hRc, hRs, hnL, hscr⟩ := F
  obtain ⟨hK, hstr, hnest, hcast, hdecl, hnc, hU, hN⟩ := hE
  intro H locs ls hP hS hl
  have hD := am_ρD (cA := cA) (M := M) hρ
  obtain rfl : len = 1 := hlen.resolve_left (fun q => by cases q)
  dsimp only [am_s1] at h
  unfold am_sti at h
  split at h
  next x r =>
    obtain ⟨lv', e1, e2⟩ := Option.map_eq_some_iff.mp h
    obtain ⟨hi, rfl⟩ := am_st_eq e1
    cases e2
    exact lv_istore_n hx hb hd rfl hl hi (by rw [← am_kl_cv]; rfl) (fun ls' hl' => k H locs ls' hP hS hl')
  next => cases h
set_option maxHeartbeats 1000000 in
theorem am_s_lstore (F : am_fix p s m args c cc R cells slots ρ D cA base o nL scr) (i : Nat) {len pc : Nat} {lv : am_L} {st : List am_V} {M : am_M} {r : List Prop × Nat × am_L × List am_V × am_M} (hd : decode cc pc = .ok (.lstore i, len)) (hlen : am_len (.lstore i) = 0 ∨ len = am_len (.lstore i)) (h : am_s1 o nL scr (.lstore i) pc lv st M = some r) (hp : am_all r.1)
    (k : am_at_ p l e R s m args below meth c cells slots Z ρ D cA base nL r.2.1 r.2.2.1 r.2.2.2.1 r.2.2.2.2) : am_at_ p l e R s m args below meth c cells slots Z ρ D cA base nL pc lv st M := by
  obtain ⟨hx, hb, hml, hts, hown, hρ, hE, hRf, hRl, hRc, hRs, hnL, hscr⟩ := F
  obtain ⟨hK, hstr, hnest, hcast, hdecl, hnc, hU, hN⟩ := hE
  intro H locs ls hP hS hl
  have hD := am_ρD (cA := cA) (M := M) hρ
  obtain rfl : len = 2 := hlen.resolve_left (fun q => by cases q)
  dsimp only [am_s1] at h
  unfold am_stl at h
  split at h
  next x r =>
    obtain ⟨lv', e1, e2⟩ := Option.map_eq_some_iff.mp h
    obtain ⟨hi, rfl⟩ := am_st2_eq e1
    cases e2
    exact lv_lstore hx hb hd hl hi (by rw [← am_kl2_cv]; rfl) (fun ls' hl' => k H locs ls' hP hS hl')
  next => cases h
set_option maxHeartbeats 1000000 in
theorem am_s_lstore_n (F : am_fix p s m args c cc R cells slots ρ D cA base o nL scr) (i : Fin 4) {len pc : Nat} {lv : am_L} {st : List am_V} {M : am_M} {r : List Prop × Nat × am_L × List am_V × am_M} (hd : decode cc pc = .ok (.lstore_n i, len)) (hlen : am_len (.lstore_n i) = 0 ∨ len = am_len (.lstore_n i)) (h : am_s1 o nL scr (.lstore_n i) pc lv st M = some r) (hp : am_all r.1)
    (k : am_at_ p l e R s m args below meth c cells slots Z ρ D cA base nL r.2.1 r.2.2.1 r.2.2.2.1 r.2.2.2.2) : am_at_ p l e R s m args below meth c cells slots Z ρ D cA base nL pc lv st M := by
  obtain ⟨hx, hb, hml, hts, hown, hρ, hE, hRf, hRl, hRc, hRs, hnL, hscr⟩ := F
  obtain ⟨hK, hstr, hnest, hcast, hdecl, hnc, hU, hN⟩ := hE
  intro H locs ls hP hS hl
  have hD := am_ρD (cA := cA) (M := M) hρ
  obtain rfl : len = 1 := hlen.resolve_left (fun q => by cases q)
  dsimp only [am_s1] at h
  unfold am_stl at h
  split at h
  next x r =>
    obtain ⟨lv', e1, e2⟩ := Option.map_eq_some_iff.mp h
    obtain ⟨hi, rfl⟩ := am_st2_eq e1
    cases e2
    exact lv_lstore_n hx hb hd rfl hl hi (by rw [← am_kl2_cv]; rfl) (fun ls' hl' => k H locs ls' hP hS hl')
  next => cases h
set_option maxHeartbeats 1000000 in
theorem am_s_dstore (F : am_fix p s m args c cc R cells slots ρ D cA base o nL scr) (i : Nat) {len pc : Nat} {lv : am_L} {st : List am_V} {M : am_M} {r : List Prop × Nat × am_L × List am_V × am_M} (hd : decode cc pc = .ok (.dstore i, len)) (hlen : am_len (.dstore i) = 0 ∨ len = am_len (.dstore i)) (h : am_s1 o nL scr (.dstore i) pc lv st M = some r) (hp : am_all r.1)
    (k : am_at_ p l e R s m args below meth c cells slots Z ρ D cA base nL r.2.1 r.2.2.1 r.2.2.2.1 r.2.2.2.2) : am_at_ p l e R s m args below meth c cells slots Z ρ D cA base nL pc lv st M := by
  obtain ⟨hx, hb, hml, hts, hown, hρ, hE, hRf, hRl, hRc, hRs, hnL, hscr⟩ := F
  obtain ⟨hK, hstr, hnest, hcast, hdecl, hnc, hU, hN⟩ := hE
  intro H locs ls hP hS hl
  have hD := am_ρD (cA := cA) (M := M) hρ
  obtain rfl : len = 2 := hlen.resolve_left (fun q => by cases q)
  dsimp only [am_s1] at h
  unfold am_std at h
  split at h
  next x r =>
    obtain ⟨lv', e1, e2⟩ := Option.map_eq_some_iff.mp h
    obtain ⟨hi, rfl⟩ := am_st2_eq e1
    cases e2
    exact lv_dstore hx hb hd hl hi (by rw [← am_kl2_cv]; rfl) (fun ls' hl' => k H locs ls' hP hS hl')
  next => cases h
set_option maxHeartbeats 1000000 in
theorem am_s_dstore_n (F : am_fix p s m args c cc R cells slots ρ D cA base o nL scr) (i : Fin 4) {len pc : Nat} {lv : am_L} {st : List am_V} {M : am_M} {r : List Prop × Nat × am_L × List am_V × am_M} (hd : decode cc pc = .ok (.dstore_n i, len)) (hlen : am_len (.dstore_n i) = 0 ∨ len = am_len (.dstore_n i)) (h : am_s1 o nL scr (.dstore_n i) pc lv st M = some r) (hp : am_all r.1)
    (k : am_at_ p l e R s m args below meth c cells slots Z ρ D cA base nL r.2.1 r.2.2.1 r.2.2.2.1 r.2.2.2.2) : am_at_ p l e R s m args below meth c cells slots Z ρ D cA base nL pc lv st M := by
  obtain ⟨hx, hb, hml, hts, hown, hρ, hE, hRf, hRl, hRc, hRs, hnL, hscr⟩ := F
  obtain ⟨hK, hstr, hnest, hcast, hdecl, hnc, hU, hN⟩ := hE
  intro H locs ls hP hS hl
  have hD := am_ρD (cA := cA) (M := M) hρ
  obtain rfl : len = 1 := hlen.resolve_left (fun q => by cases q)
  dsimp only [am_s1] at h
  unfold am_std at h
  split at h
  next x r =>
    obtain ⟨lv', e1, e2⟩ := Option.map_eq_some_iff.mp h
    obtain ⟨hi, rfl⟩ := am_st2_eq e1
    cases e2
    exact lv_dstore_n hx hb hd rfl hl hi (by rw [← am_kl2_cv]; rfl) (fun ls' hl' => k H locs ls' hP hS hl')
  next => cases h
set_option maxHeartbeats 1000000 in
theorem am_s_astore (F : am_fix p s m args c cc R cells slots ρ D cA base o nL scr) (i : Nat) {len pc : Nat} {lv : am_L} {st : List am_V} {M : am_M} {r : List Prop × Nat × am_L × List am_V × am_M} (hd : decode cc pc = .ok (.astore i, len)) (hlen : am_len (.astore i) = 0 ∨ len = am_len (.astore i)) (h : am_s1 o nL scr (.astore i) pc lv st M = some r) (hp : am_all r.1)
    (k : am_at_ p l e R s m args below meth c cells slots Z ρ D cA base nL r.2.1 r.2.2.1 r.2.2.2.1 r.2.2.2.2) : am_at_ p l e R s m args below meth c cells slots Z ρ D cA base nL pc lv st M := by
  obtain ⟨hx, hb, hml, hts, hown, hρ, hE, hRf, hRl, hRc, hRs, hnL, hscr⟩ := F
  obtain ⟨hK, hstr, hnest, hcast, hdecl, hnc, hU, hN⟩ := hE
  intro H locs ls hP hS hl
  have hD := am_ρD (cA := cA) (M := M) hρ
  obtain rfl : len = 2 := hlen.resolve_left (fun q => by cases q)
  dsimp only [am_s1] at h
  unfold am_sta at h
  split at h
  next x r =>
    obtain ⟨lv', e1, e2⟩ := Option.map_eq_some_iff.mp h
    obtain ⟨hi, rfl⟩ := am_st_eq e1
    cases e2
    cases x with
    | none => exact lv_astoreN hx hb hd hl hi (by rw [← am_kl_cv]; rfl) (fun ls' hl' => k H locs ls' hP hS hl')
    | some x => exact lv_astore hx hb hd hl hi (by rw [← am_kl_cv]; rfl) (fun ls' hl' => k H locs ls' hP hS hl')
  next => cases h
set_option maxHeartbeats 1000000 in
theorem am_s_astore_n (F : am_fix p s m args c cc R cells slots ρ D cA base o nL scr) (i : Fin 4) {len pc : Nat} {lv : am_L} {st : List am_V} {M : am_M} {r : List Prop × Nat × am_L × List am_V × am_M} (hd : decode cc pc = .ok (.astore_n i, len)) (hlen : am_len (.astore_n i) = 0 ∨ len = am_len (.astore_n i)) (h : am_s1 o nL scr (.astore_n i) pc lv st M = some r) (hp : am_all r.1)
    (k : am_at_ p l e R s m args below meth c cells slots Z ρ D cA base nL r.2.1 r.2.2.1 r.2.2.2.1 r.2.2.2.2) : am_at_ p l e R s m args below meth c cells slots Z ρ D cA base nL pc lv st M := by
  obtain ⟨hx, hb, hml, hts, hown, hρ, hE, hRf, hRl, hRc, hRs, hnL, hscr⟩ := F
  obtain ⟨hK, hstr, hnest, hcast, hdecl, hnc, hU, hN⟩ := hE
  intro H locs ls hP hS hl
  have hD := am_ρD (cA := cA) (M := M) hρ
  obtain rfl : len = 1 := hlen.resolve_left (fun q => by cases q)
  dsimp only [am_s1] at h
  unfold am_sta at h
  split at h
  next x r =>
    obtain ⟨lv', e1, e2⟩ := Option.map_eq_some_iff.mp h
    obtain ⟨hi, rfl⟩ := am_st_eq e1
    cases e2
    cases x with
    | none => exact lv_astore_nN hx hb hd rfl hl hi (by rw [← am_kl_cv]; rfl) (fun ls' hl' => k H locs ls' hP hS hl')
    | some x => exact lv_astore_n hx hb hd rfl hl hi (by rw [← am_kl_cv]; rfl) (fun ls' hl' => k H locs ls' hP hS hl')
  next => cases h
set_option maxHeartbeats 1000000 in
theorem am_s_iinc (F : am_fix p s m args c cc R cells slots ρ D cA base o nL scr) (i : Nat) (n : Int) {len pc : Nat} {lv : am_L} {st : List am_V} {M : am_M} {r : List Prop × Nat × am_L × List am_V × am_M} (hd : decode cc pc = .ok (.iinc i n, len)) (hlen : am_len (.iinc i n) = 0 ∨ len = am_len (.iinc i n)) (h : am_s1 o nL scr (.iinc i n) pc lv st M = some r) (hp : am_all r.1)
    (k : am_at_ p l e R s m args below meth c cells slots Z ρ D cA base nL r.2.1 r.2.2.1 r.2.2.2.1 r.2.2.2.2) : am_at_ p l e R s m args below meth c cells slots Z ρ D cA base nL pc lv st M := by
  obtain ⟨hx, hb, hml, hts, hown, hρ, hE, hRf, hRl, hRc, hRs, hnL, hscr⟩ := F
  obtain ⟨hK, hstr, hnest, hcast, hdecl, hnc, hU, hN⟩ := hE
  intro H locs ls hP hS hl
  have hD := am_ρD (cA := cA) (M := M) hρ
  obtain rfl : len = 3 := hlen.resolve_left (fun q => by cases q)
  dsimp only [am_s1] at h
  split at h
  next x hc =>
    obtain ⟨lv', e1, e2⟩ := Option.map_eq_some_iff.mp h
    obtain ⟨hi, rfl⟩ := am_st_eq e1
    cases e2
    have hm := am_al_in (am_ldi_al hc)
    obtain ⟨q, hq⟩ := List.getElem?_of_mem hm
    exact lv_iinc (k := q) (x := Int32.ofInt x) hx hb hd hl (by unfold am_cl; rw [List.getElem?_map, hq]; rfl) rfl hi (by rw [← am_kl_cv, ← Int32.ofInt_add]; rfl) (fun ls' hl' => k H locs ls' hP hS hl')
  next => cases h
set_option maxHeartbeats 1000000 in
theorem am_s_iadd (F : am_fix p s m args c cc R cells slots ρ D cA base o nL scr)  {len pc : Nat} {lv : am_L} {st : List am_V} {M : am_M} {r : List Prop × Nat × am_L × List am_V × am_M} (hd : decode cc pc = .ok (.iadd, len)) (hlen : am_len (.iadd) = 0 ∨ len = am_len (.iadd)) (h : am_s1 o nL scr (.iadd) pc lv st M = some r) (hp : am_all r.1)
    (k : am_at_ p l e R s m args below meth c cells slots Z ρ D cA base nL r.2.1 r.2.2.1 r.2.2.2.1 r.2.2.2.2) : am_at_ p l e R s m args below meth c cells slots Z ρ D cA base nL pc lv st M := by
  obtain ⟨hx, hb, hml, hts, hown, hρ, hE, hRf, hRl, hRc, hRs, hnL, hscr⟩ := F
  obtain ⟨hK, hstr, hnest, hcast, hdecl, hnc, hU, hN⟩ := hE
  intro H locs ls hP hS hl
  have hD := am_ρD (cA := cA) (M := M) hρ
  obtain rfl : len = 1 := hlen.resolve_left (fun q => by cases q)
  dsimp only [am_s1] at h
  split at h
  next y x r0 =>
    cases h
    have k1 := k H locs ls hP hS hl
    refine lv_iadd hx hb hd ?_
    rw [← Int32.ofInt_add]
    exact k1
  next => cases h
set_option maxHeartbeats 1000000 in
theorem am_s_isub (F : am_fix p s m args c cc R cells slots ρ D cA base o nL scr)  {len pc : Nat} {lv : am_L} {st : List am_V} {M : am_M} {r : List Prop × Nat × am_L × List am_V × am_M} (hd : decode cc pc = .ok (.isub, len)) (hlen : am_len (.isub) = 0 ∨ len = am_len (.isub)) (h : am_s1 o nL scr (.isub) pc lv st M = some r) (hp : am_all r.1)
    (k : am_at_ p l e R s m args below meth c cells slots Z ρ D cA base nL r.2.1 r.2.2.1 r.2.2.2.1 r.2.2.2.2) : am_at_ p l e R s m args below meth c cells slots Z ρ D cA base nL pc lv st M := by
  obtain ⟨hx, hb, hml, hts, hown, hρ, hE, hRf, hRl, hRc, hRs, hnL, hscr⟩ := F
  obtain ⟨hK, hstr, hnest, hcast, hdecl, hnc, hU, hN⟩ := hE
  intro H locs ls hP hS hl
  have hD := am_ρD (cA := cA) (M := M) hρ
  obtain rfl : len = 1 := hlen.resolve_left (fun q => by cases q)
  dsimp only [am_s1] at h
  split at h
  next y x r0 =>
    cases h
    have k1 := k H locs ls hP hS hl
    refine lv_isub hx hb hd ?_
    rw [← Int32.ofInt_sub]
    exact k1
  next => cases h
set_option maxHeartbeats 1000000 in
theorem am_s_imul (F : am_fix p s m args c cc R cells slots ρ D cA base o nL scr)  {len pc : Nat} {lv : am_L} {st : List am_V} {M : am_M} {r : List Prop × Nat × am_L × List am_V × am_M} (hd : decode cc pc = .ok (.imul, len)) (hlen : am_len (.imul) = 0 ∨ len = am_len (.imul)) (h : am_s1 o nL scr (.imul) pc lv st M = some r) (hp : am_all r.1)
    (k : am_at_ p l e R s m args below meth c cells slots Z ρ D cA base nL r.2.1 r.2.2.1 r.2.2.2.1 r.2.2.2.2) : am_at_ p l e R s m args below meth c cells slots Z ρ D cA base nL pc lv st M := by
  obtain ⟨hx, hb, hml, hts, hown, hρ, hE, hRf, hRl, hRc, hRs, hnL, hscr⟩ := F
  obtain ⟨hK, hstr, hnest, hcast, hdecl, hnc, hU, hN⟩ := hE
  intro H locs ls hP hS hl
  have hD := am_ρD (cA := cA) (M := M) hρ
  obtain rfl : len = 1 := hlen.resolve_left (fun q => by cases q)
  dsimp only [am_s1] at h
  split at h
  next y x r0 =>
    cases h
    have k1 := k H locs ls hP hS hl
    refine lv_imul hx hb hd ?_
    rw [← Int32.ofInt_mul]
    exact k1
  next => cases h
set_option maxHeartbeats 1000000 in
theorem am_s_ladd (F : am_fix p s m args c cc R cells slots ρ D cA base o nL scr)  {len pc : Nat} {lv : am_L} {st : List am_V} {M : am_M} {r : List Prop × Nat × am_L × List am_V × am_M} (hd : decode cc pc = .ok (.ladd, len)) (hlen : am_len (.ladd) = 0 ∨ len = am_len (.ladd)) (h : am_s1 o nL scr (.ladd) pc lv st M = some r) (hp : am_all r.1)
    (k : am_at_ p l e R s m args below meth c cells slots Z ρ D cA base nL r.2.1 r.2.2.1 r.2.2.2.1 r.2.2.2.2) : am_at_ p l e R s m args below meth c cells slots Z ρ D cA base nL pc lv st M := by
  obtain ⟨hx, hb, hml, hts, hown, hρ, hE, hRf, hRl, hRc, hRs, hnL, hscr⟩ := F
  obtain ⟨hK, hstr, hnest, hcast, hdecl, hnc, hU, hN⟩ := hE
  intro H locs ls hP hS hl
  have hD := am_ρD (cA := cA) (M := M) hρ
  obtain rfl : len = 1 := hlen.resolve_left (fun q => by cases q)
  dsimp only [am_s1] at h
  split at h
  next y x r0 =>
    cases h
    have k1 := k H locs ls hP hS hl
    refine lv_ladd hx hb hd ?_
    rw [← Int64.ofInt_add]
    exact k1
  next => cases h
set_option maxHeartbeats 1000000 in
theorem am_s_lsub (F : am_fix p s m args c cc R cells slots ρ D cA base o nL scr)  {len pc : Nat} {lv : am_L} {st : List am_V} {M : am_M} {r : List Prop × Nat × am_L × List am_V × am_M} (hd : decode cc pc = .ok (.lsub, len)) (hlen : am_len (.lsub) = 0 ∨ len = am_len (.lsub)) (h : am_s1 o nL scr (.lsub) pc lv st M = some r) (hp : am_all r.1)
    (k : am_at_ p l e R s m args below meth c cells slots Z ρ D cA base nL r.2.1 r.2.2.1 r.2.2.2.1 r.2.2.2.2) : am_at_ p l e R s m args below meth c cells slots Z ρ D cA base nL pc lv st M := by
  obtain ⟨hx, hb, hml, hts, hown, hρ, hE, hRf, hRl, hRc, hRs, hnL, hscr⟩ := F
  obtain ⟨hK, hstr, hnest, hcast, hdecl, hnc, hU, hN⟩ := hE
  intro H locs ls hP hS hl
  have hD := am_ρD (cA := cA) (M := M) hρ
  obtain rfl : len = 1 := hlen.resolve_left (fun q => by cases q)
  dsimp only [am_s1] at h
  split at h
  next y x r0 =>
    cases h
    have k1 := k H locs ls hP hS hl
    refine lv_lsub hx hb hd ?_
    rw [← Int64.ofInt_sub]
    exact k1
  next => cases h
set_option maxHeartbeats 1000000 in
theorem am_s_lmul (F : am_fix p s m args c cc R cells slots ρ D cA base o nL scr)  {len pc : Nat} {lv : am_L} {st : List am_V} {M : am_M} {r : List Prop × Nat × am_L × List am_V × am_M} (hd : decode cc pc = .ok (.lmul, len)) (hlen : am_len (.lmul) = 0 ∨ len = am_len (.lmul)) (h : am_s1 o nL scr (.lmul) pc lv st M = some r) (hp : am_all r.1)
    (k : am_at_ p l e R s m args below meth c cells slots Z ρ D cA base nL r.2.1 r.2.2.1 r.2.2.2.1 r.2.2.2.2) : am_at_ p l e R s m args below meth c cells slots Z ρ D cA base nL pc lv st M := by
  obtain ⟨hx, hb, hml, hts, hown, hρ, hE, hRf, hRl, hRc, hRs, hnL, hscr⟩ := F
  obtain ⟨hK, hstr, hnest, hcast, hdecl, hnc, hU, hN⟩ := hE
  intro H locs ls hP hS hl
  have hD := am_ρD (cA := cA) (M := M) hρ
  obtain rfl : len = 1 := hlen.resolve_left (fun q => by cases q)
  dsimp only [am_s1] at h
  split at h
  next y x r0 =>
    cases h
    have k1 := k H locs ls hP hS hl
    refine lv_lmul hx hb hd ?_
    rw [← Int64.ofInt_mul]
    exact k1
  next => cases h
set_option maxHeartbeats 1000000 in
theorem am_s_ishr (F : am_fix p s m args c cc R cells slots ρ D cA base o nL scr)  {len pc : Nat} {lv : am_L} {st : List am_V} {M : am_M} {r : List Prop × Nat × am_L × List am_V × am_M} (hd : decode cc pc = .ok (.ishr, len)) (hlen : am_len (.ishr) = 0 ∨ len = am_len (.ishr)) (h : am_s1 o nL scr (.ishr) pc lv st M = some r) (hp : am_all r.1)
    (k : am_at_ p l e R s m args below meth c cells slots Z ρ D cA base nL r.2.1 r.2.2.1 r.2.2.2.1 r.2.2.2.2) : am_at_ p l e R s m args below meth c cells slots Z ρ D cA base nL pc lv st M := by
  obtain ⟨hx, hb, hml, hts, hown, hρ, hE, hRf, hRl, hRc, hRs, hnL, hscr⟩ := F
  obtain ⟨hK, hstr, hnest, hcast, hdecl, hnc, hU, hN⟩ := hE
  intro H locs ls hP hS hl
  have hD := am_ρD (cA := cA) (M := M) hρ
  obtain rfl : len = 1 := hlen.resolve_left (fun q => by cases q)
  dsimp only [am_s1] at h
  split at h
  next y x r0 =>
    cases h
    have k1 := k H locs ls hP hS hl
    refine lv_ishr hx hb hd ?_
    rw [← am_of32 (_ >>> _)]
    exact k1
  next => cases h
set_option maxHeartbeats 1000000 in
theorem am_s_iand (F : am_fix p s m args c cc R cells slots ρ D cA base o nL scr)  {len pc : Nat} {lv : am_L} {st : List am_V} {M : am_M} {r : List Prop × Nat × am_L × List am_V × am_M} (hd : decode cc pc = .ok (.iand, len)) (hlen : am_len (.iand) = 0 ∨ len = am_len (.iand)) (h : am_s1 o nL scr (.iand) pc lv st M = some r) (hp : am_all r.1)
    (k : am_at_ p l e R s m args below meth c cells slots Z ρ D cA base nL r.2.1 r.2.2.1 r.2.2.2.1 r.2.2.2.2) : am_at_ p l e R s m args below meth c cells slots Z ρ D cA base nL pc lv st M := by
  obtain ⟨hx, hb, hml, hts, hown, hρ, hE, hRf, hRl, hRc, hRs, hnL, hscr⟩ := F
  obtain ⟨hK, hstr, hnest, hcast, hdecl, hnc, hU, hN⟩ := hE
  intro H locs ls hP hS hl
  have hD := am_ρD (cA := cA) (M := M) hρ
  obtain rfl : len = 1 := hlen.resolve_left (fun q => by cases q)
  dsimp only [am_s1] at h
  split at h
  next y x r0 =>
    cases h
    have k1 := k H locs ls hP hS hl
    refine lv_iand hx hb hd ?_
    rw [← am_of32 (_ &&& _)]
    exact k1
  next => cases h
set_option maxHeartbeats 1000000 in
theorem am_s_ior (F : am_fix p s m args c cc R cells slots ρ D cA base o nL scr)  {len pc : Nat} {lv : am_L} {st : List am_V} {M : am_M} {r : List Prop × Nat × am_L × List am_V × am_M} (hd : decode cc pc = .ok (.ior, len)) (hlen : am_len (.ior) = 0 ∨ len = am_len (.ior)) (h : am_s1 o nL scr (.ior) pc lv st M = some r) (hp : am_all r.1)
    (k : am_at_ p l e R s m args below meth c cells slots Z ρ D cA base nL r.2.1 r.2.2.1 r.2.2.2.1 r.2.2.2.2) : am_at_ p l e R s m args below meth c cells slots Z ρ D cA base nL pc lv st M := by
  obtain ⟨hx, hb, hml, hts, hown, hρ, hE, hRf, hRl, hRc, hRs, hnL, hscr⟩ := F
  obtain ⟨hK, hstr, hnest, hcast, hdecl, hnc, hU, hN⟩ := hE
  intro H locs ls hP hS hl
  have hD := am_ρD (cA := cA) (M := M) hρ
  obtain rfl : len = 1 := hlen.resolve_left (fun q => by cases q)
  dsimp only [am_s1] at h
  split at h
  next y x r0 =>
    cases h
    have k1 := k H locs ls hP hS hl
    refine lv_ior hx hb hd ?_
    rw [← am_of32 (_ ||| _)]
    exact k1
  next => cases h
set_option maxHeartbeats 1000000 in
theorem am_s_ixor (F : am_fix p s m args c cc R cells slots ρ D cA base o nL scr)  {len pc : Nat} {lv : am_L} {st : List am_V} {M : am_M} {r : List Prop × Nat × am_L × List am_V × am_M} (hd : decode cc pc = .ok (.ixor, len)) (hlen : am_len (.ixor) = 0 ∨ len = am_len (.ixor)) (h : am_s1 o nL scr (.ixor) pc lv st M = some r) (hp : am_all r.1)
    (k : am_at_ p l e R s m args below meth c cells slots Z ρ D cA base nL r.2.1 r.2.2.1 r.2.2.2.1 r.2.2.2.2) : am_at_ p l e R s m args below meth c cells slots Z ρ D cA base nL pc lv st M := by
  obtain ⟨hx, hb, hml, hts, hown, hρ, hE, hRf, hRl, hRc, hRs, hnL, hscr⟩ := F
  obtain ⟨hK, hstr, hnest, hcast, hdecl, hnc, hU, hN⟩ := hE
  intro H locs ls hP hS hl
  have hD := am_ρD (cA := cA) (M := M) hρ
  obtain rfl : len = 1 := hlen.resolve_left (fun q => by cases q)
  dsimp only [am_s1] at h
  split at h
  next y x r0 =>
    cases h
    have k1 := k H locs ls hP hS hl
    refine lv_ixor hx hb hd ?_
    rw [← am_of32 (_ ^^^ _)]
    exact k1
  next => cases h
set_option maxHeartbeats 1000000 in
theorem am_s_ineg (F : am_fix p s m args c cc R cells slots ρ D cA base o nL scr)  {len pc : Nat} {lv : am_L} {st : List am_V} {M : am_M} {r : List Prop × Nat × am_L × List am_V × am_M} (hd : decode cc pc = .ok (.ineg, len)) (hlen : am_len (.ineg) = 0 ∨ len = am_len (.ineg)) (h : am_s1 o nL scr (.ineg) pc lv st M = some r) (hp : am_all r.1)
    (k : am_at_ p l e R s m args below meth c cells slots Z ρ D cA base nL r.2.1 r.2.2.1 r.2.2.2.1 r.2.2.2.2) : am_at_ p l e R s m args below meth c cells slots Z ρ D cA base nL pc lv st M := by
  obtain ⟨hx, hb, hml, hts, hown, hρ, hE, hRf, hRl, hRc, hRs, hnL, hscr⟩ := F
  obtain ⟨hK, hstr, hnest, hcast, hdecl, hnc, hU, hN⟩ := hE
  intro H locs ls hP hS hl
  have hD := am_ρD (cA := cA) (M := M) hρ
  obtain rfl : len = 1 := hlen.resolve_left (fun q => by cases q)
  dsimp only [am_s1] at h
  split at h
  next x r0 =>
    cases h
    have k1 := k H locs ls hP hS hl
    refine lv_ineg hx hb hd ?_
    rw [← Int32.ofInt_neg]
    exact k1
  next => cases h
set_option maxHeartbeats 1000000 in
theorem am_s_idiv (F : am_fix p s m args c cc R cells slots ρ D cA base o nL scr)  {len pc : Nat} {lv : am_L} {st : List am_V} {M : am_M} {r : List Prop × Nat × am_L × List am_V × am_M} (hd : decode cc pc = .ok (.idiv, len)) (hlen : am_len (.idiv) = 0 ∨ len = am_len (.idiv)) (h : am_s1 o nL scr (.idiv) pc lv st M = some r) (hp : am_all r.1)
    (k : am_at_ p l e R s m args below meth c cells slots Z ρ D cA base nL r.2.1 r.2.2.1 r.2.2.2.1 r.2.2.2.2) : am_at_ p l e R s m args below meth c cells slots Z ρ D cA base nL pc lv st M := by
  obtain ⟨hx, hb, hml, hts, hown, hρ, hE, hRf, hRl, hRc, hRs, hnL, hscr⟩ := F
  obtain ⟨hK, hstr, hnest, hcast, hdecl, hnc, hU, hN⟩ := hE
  intro H locs ls hP hS hl
  have hD := am_ρD (cA := cA) (M := M) hρ
  obtain rfl : len = 1 := hlen.resolve_left (fun q => by cases q)
  dsimp only [am_s1] at h
  split at h
  next y x r0 =>
    cases h
    obtain ⟨⟨hx1, hy1, h0⟩, -⟩ := hp
    have k1 := k H locs ls hP hS hl
    refine lv_idiv hx hb hd (fun q => ?_) ?_
    · have q2 := congrArg Int32.toInt q
      rw [am_toInt hy1] at q2
      change y = 0 at q2
      omega
    · rw [am_div hx1 hy1 h0]
      exact k1
  next => cases h
set_option maxHeartbeats 1000000 in
theorem am_s_irem (F : am_fix p s m args c cc R cells slots ρ D cA base o nL scr)  {len pc : Nat} {lv : am_L} {st : List am_V} {M : am_M} {r : List Prop × Nat × am_L × List am_V × am_M} (hd : decode cc pc = .ok (.irem, len)) (hlen : am_len (.irem) = 0 ∨ len = am_len (.irem)) (h : am_s1 o nL scr (.irem) pc lv st M = some r) (hp : am_all r.1)
    (k : am_at_ p l e R s m args below meth c cells slots Z ρ D cA base nL r.2.1 r.2.2.1 r.2.2.2.1 r.2.2.2.2) : am_at_ p l e R s m args below meth c cells slots Z ρ D cA base nL pc lv st M := by
  obtain ⟨hx, hb, hml, hts, hown, hρ, hE, hRf, hRl, hRc, hRs, hnL, hscr⟩ := F
  obtain ⟨hK, hstr, hnest, hcast, hdecl, hnc, hU, hN⟩ := hE
  intro H locs ls hP hS hl
  have hD := am_ρD (cA := cA) (M := M) hρ
  obtain rfl : len = 1 := hlen.resolve_left (fun q => by cases q)
  dsimp only [am_s1] at h
  split at h
  next y x r0 =>
    cases h
    obtain ⟨⟨hx1, hy1, h0⟩, -⟩ := hp
    have k1 := k H locs ls hP hS hl
    refine lv_irem hx hb hd (fun q => ?_) ?_
    · have q2 := congrArg Int32.toInt q
      rw [am_toInt hy1] at q2
      change y = 0 at q2
      omega
    · rw [am_rem hx1 hy1 h0]
      exact k1
  next => cases h
set_option maxHeartbeats 1000000 in
theorem am_s_ldiv (F : am_fix p s m args c cc R cells slots ρ D cA base o nL scr)  {len pc : Nat} {lv : am_L} {st : List am_V} {M : am_M} {r : List Prop × Nat × am_L × List am_V × am_M} (hd : decode cc pc = .ok (.ldiv, len)) (hlen : am_len (.ldiv) = 0 ∨ len = am_len (.ldiv)) (h : am_s1 o nL scr (.ldiv) pc lv st M = some r) (hp : am_all r.1)
    (k : am_at_ p l e R s m args below meth c cells slots Z ρ D cA base nL r.2.1 r.2.2.1 r.2.2.2.1 r.2.2.2.2) : am_at_ p l e R s m args below meth c cells slots Z ρ D cA base nL pc lv st M := by
  obtain ⟨hx, hb, hml, hts, hown, hρ, hE, hRf, hRl, hRc, hRs, hnL, hscr⟩ := F
  obtain ⟨hK, hstr, hnest, hcast, hdecl, hnc, hU, hN⟩ := hE
  intro H locs ls hP hS hl
  have hD := am_ρD (cA := cA) (M := M) hρ
  obtain rfl : len = 1 := hlen.resolve_left (fun q => by cases q)
  dsimp only [am_s1] at h
  split at h
  next y x r0 =>
    cases h
    obtain ⟨⟨hx1, hy1, h0⟩, -⟩ := hp
    have k1 := k H locs ls hP hS hl
    refine lv_ldiv hx hb hd (fun q => ?_) ?_
    · have q2 := congrArg Int64.toInt q
      rw [am_toIntL hy1] at q2
      change y = 0 at q2
      omega
    · rw [am_divL hx1 hy1 h0]
      exact k1
  next => cases h
set_option maxHeartbeats 1000000 in
theorem am_s_i2l (F : am_fix p s m args c cc R cells slots ρ D cA base o nL scr)  {len pc : Nat} {lv : am_L} {st : List am_V} {M : am_M} {r : List Prop × Nat × am_L × List am_V × am_M} (hd : decode cc pc = .ok (.i2l, len)) (hlen : am_len (.i2l) = 0 ∨ len = am_len (.i2l)) (h : am_s1 o nL scr (.i2l) pc lv st M = some r) (hp : am_all r.1)
    (k : am_at_ p l e R s m args below meth c cells slots Z ρ D cA base nL r.2.1 r.2.2.1 r.2.2.2.1 r.2.2.2.2) : am_at_ p l e R s m args below meth c cells slots Z ρ D cA base nL pc lv st M := by
  obtain ⟨hx, hb, hml, hts, hown, hρ, hE, hRf, hRl, hRc, hRs, hnL, hscr⟩ := F
  obtain ⟨hK, hstr, hnest, hcast, hdecl, hnc, hU, hN⟩ := hE
  intro H locs ls hP hS hl
  have hD := am_ρD (cA := cA) (M := M) hρ
  obtain rfl : len = 1 := hlen.resolve_left (fun q => by cases q)
  dsimp only [am_s1] at h
  split at h
  next x r0 =>
    cases h
    exact lv_i2l hx hb hd (am_i2l hp.1) (k H locs ls hP hS hl)
  next => cases h
set_option maxHeartbeats 1000000 in
theorem am_s_l2i (F : am_fix p s m args c cc R cells slots ρ D cA base o nL scr)  {len pc : Nat} {lv : am_L} {st : List am_V} {M : am_M} {r : List Prop × Nat × am_L × List am_V × am_M} (hd : decode cc pc = .ok (.l2i, len)) (hlen : am_len (.l2i) = 0 ∨ len = am_len (.l2i)) (h : am_s1 o nL scr (.l2i) pc lv st M = some r) (hp : am_all r.1)
    (k : am_at_ p l e R s m args below meth c cells slots Z ρ D cA base nL r.2.1 r.2.2.1 r.2.2.2.1 r.2.2.2.2) : am_at_ p l e R s m args below meth c cells slots Z ρ D cA base nL pc lv st M := by
  obtain ⟨hx, hb, hml, hts, hown, hρ, hE, hRf, hRl, hRc, hRs, hnL, hscr⟩ := F
  obtain ⟨hK, hstr, hnest, hcast, hdecl, hnc, hU, hN⟩ := hE
  intro H locs ls hP hS hl
  have hD := am_ρD (cA := cA) (M := M) hρ
  obtain rfl : len = 1 := hlen.resolve_left (fun q => by cases q)
  dsimp only [am_s1] at h
  split at h
  next x r0 =>
    cases h
    exact lv_l2i hx hb hd (am_l2i x) (k H locs ls hP hS hl)
  next => cases h
set_option maxHeartbeats 1000000 in
theorem am_s_i2d (F : am_fix p s m args c cc R cells slots ρ D cA base o nL scr)  {len pc : Nat} {lv : am_L} {st : List am_V} {M : am_M} {r : List Prop × Nat × am_L × List am_V × am_M} (hd : decode cc pc = .ok (.i2d, len)) (hlen : am_len (.i2d) = 0 ∨ len = am_len (.i2d)) (h : am_s1 o nL scr (.i2d) pc lv st M = some r) (hp : am_all r.1)
    (k : am_at_ p l e R s m args below meth c cells slots Z ρ D cA base nL r.2.1 r.2.2.1 r.2.2.2.1 r.2.2.2.2) : am_at_ p l e R s m args below meth c cells slots Z ρ D cA base nL pc lv st M := by
  obtain ⟨hx, hb, hml, hts, hown, hρ, hE, hRf, hRl, hRc, hRs, hnL, hscr⟩ := F
  obtain ⟨hK, hstr, hnest, hcast, hdecl, hnc, hU, hN⟩ := hE
  intro H locs ls hP hS hl
  have hD := am_ρD (cA := cA) (M := M) hρ
  obtain rfl : len = 1 := hlen.resolve_left (fun q => by cases q)
  dsimp only [am_s1] at h
  split at h
  next x r0 =>
    cases h
    exact lv_i2d hx hb hd (k H locs ls hP hS hl)
  next => cases h
set_option maxHeartbeats 1000000 in
theorem am_s_d2l (F : am_fix p s m args c cc R cells slots ρ D cA base o nL scr)  {len pc : Nat} {lv : am_L} {st : List am_V} {M : am_M} {r : List Prop × Nat × am_L × List am_V × am_M} (hd : decode cc pc = .ok (.d2l, len)) (hlen : am_len (.d2l) = 0 ∨ len = am_len (.d2l)) (h : am_s1 o nL scr (.d2l) pc lv st M = some r) (hp : am_all r.1)
    (k : am_at_ p l e R s m args below meth c cells slots Z ρ D cA base nL r.2.1 r.2.2.1 r.2.2.2.1 r.2.2.2.2) : am_at_ p l e R s m args below meth c cells slots Z ρ D cA base nL pc lv st M := by
  obtain ⟨hx, hb, hml, hts, hown, hρ, hE, hRf, hRl, hRc, hRs, hnL, hscr⟩ := F
  obtain ⟨hK, hstr, hnest, hcast, hdecl, hnc, hU, hN⟩ := hE
  intro H locs ls hP hS hl
  have hD := am_ρD (cA := cA) (M := M) hρ
  obtain rfl : len = 1 := hlen.resolve_left (fun q => by cases q)
  dsimp only [am_s1] at h
  split at h
  next x r0 =>
    cases h
    have k1 := k H locs ls hP hS hl
    refine lv_d2l hx hb hd ?_
    rw [← am_of64 (FP.d2l x)]
    exact k1
  next => cases h
set_option maxHeartbeats 1000000 in
theorem am_s_lshl (F : am_fix p s m args c cc R cells slots ρ D cA base o nL scr)  {len pc : Nat} {lv : am_L} {st : List am_V} {M : am_M} {r : List Prop × Nat × am_L × List am_V × am_M} (hd : decode cc pc = .ok (.lshl, len)) (hlen : am_len (.lshl) = 0 ∨ len = am_len (.lshl)) (h : am_s1 o nL scr (.lshl) pc lv st M = some r) (hp : am_all r.1)
    (k : am_at_ p l e R s m args below meth c cells slots Z ρ D cA base nL r.2.1 r.2.2.1 r.2.2.2.1 r.2.2.2.2) : am_at_ p l e R s m args below meth c cells slots Z ρ D cA base nL pc lv st M := by
  obtain ⟨hx, hb, hml, hts, hown, hρ, hE, hRf, hRl, hRc, hRs, hnL, hscr⟩ := F
  obtain ⟨hK, hstr, hnest, hcast, hdecl, hnc, hU, hN⟩ := hE
  intro H locs ls hP hS hl
  have hD := am_ρD (cA := cA) (M := M) hρ
  obtain rfl : len = 1 := hlen.resolve_left (fun q => by cases q)
  dsimp only [am_s1] at h
  split at h
  next y x r0 =>
    cases h
    exact lv_lshl hx hb hd (am_of64 _).symm (k H locs ls hP hS hl)
  next => cases h
set_option maxHeartbeats 1000000 in
theorem am_s_lcmp (F : am_fix p s m args c cc R cells slots ρ D cA base o nL scr)  {len pc : Nat} {lv : am_L} {st : List am_V} {M : am_M} {r : List Prop × Nat × am_L × List am_V × am_M} (hd : decode cc pc = .ok (.lcmp, len)) (hlen : am_len (.lcmp) = 0 ∨ len = am_len (.lcmp)) (h : am_s1 o nL scr (.lcmp) pc lv st M = some r) (hp : am_all r.1)
    (k : am_at_ p l e R s m args below meth c cells slots Z ρ D cA base nL r.2.1 r.2.2.1 r.2.2.2.1 r.2.2.2.2) : am_at_ p l e R s m args below meth c cells slots Z ρ D cA base nL pc lv st M := by
  obtain ⟨hx, hb, hml, hts, hown, hρ, hE, hRf, hRl, hRc, hRs, hnL, hscr⟩ := F
  obtain ⟨hK, hstr, hnest, hcast, hdecl, hnc, hU, hN⟩ := hE
  intro H locs ls hP hS hl
  have hD := am_ρD (cA := cA) (M := M) hρ
  obtain rfl : len = 1 := hlen.resolve_left (fun q => by cases q)
  dsimp only [am_s1] at h
  split at h
  next y x r0 =>
    cases h
    have k1 := k H locs ls hP hS hl
    refine W.lcmp hx hb hd ?_
    rw [am_lc hp.1]
    exact k1
  next => cases h
set_option maxHeartbeats 1000000 in
theorem am_s_ddiv (F : am_fix p s m args c cc R cells slots ρ D cA base o nL scr)  {len pc : Nat} {lv : am_L} {st : List am_V} {M : am_M} {r : List Prop × Nat × am_L × List am_V × am_M} (hd : decode cc pc = .ok (.ddiv, len)) (hlen : am_len (.ddiv) = 0 ∨ len = am_len (.ddiv)) (h : am_s1 o nL scr (.ddiv) pc lv st M = some r) (hp : am_all r.1)
    (k : am_at_ p l e R s m args below meth c cells slots Z ρ D cA base nL r.2.1 r.2.2.1 r.2.2.2.1 r.2.2.2.2) : am_at_ p l e R s m args below meth c cells slots Z ρ D cA base nL pc lv st M := by
  obtain ⟨hx, hb, hml, hts, hown, hρ, hE, hRf, hRl, hRc, hRs, hnL, hscr⟩ := F
  obtain ⟨hK, hstr, hnest, hcast, hdecl, hnc, hU, hN⟩ := hE
  intro H locs ls hP hS hl
  have hD := am_ρD (cA := cA) (M := M) hρ
  obtain rfl : len = 1 := hlen.resolve_left (fun q => by cases q)
  dsimp only [am_s1] at h
  split at h
  next y x r0 =>
    cases h
    exact lv_ddiv hx hb hd hp.1 (k H locs ls hP hS hl)
  next => cases h
set_option maxHeartbeats 1000000 in
theorem am_s_dmul (F : am_fix p s m args c cc R cells slots ρ D cA base o nL scr)  {len pc : Nat} {lv : am_L} {st : List am_V} {M : am_M} {r : List Prop × Nat × am_L × List am_V × am_M} (hd : decode cc pc = .ok (.dmul, len)) (hlen : am_len (.dmul) = 0 ∨ len = am_len (.dmul)) (h : am_s1 o nL scr (.dmul) pc lv st M = some r) (hp : am_all r.1)
    (k : am_at_ p l e R s m args below meth c cells slots Z ρ D cA base nL r.2.1 r.2.2.1 r.2.2.2.1 r.2.2.2.2) : am_at_ p l e R s m args below meth c cells slots Z ρ D cA base nL pc lv st M := by
  obtain ⟨hx, hb, hml, hts, hown, hρ, hE, hRf, hRl, hRc, hRs, hnL, hscr⟩ := F
  obtain ⟨hK, hstr, hnest, hcast, hdecl, hnc, hU, hN⟩ := hE
  intro H locs ls hP hS hl
  have hD := am_ρD (cA := cA) (M := M) hρ
  obtain rfl : len = 1 := hlen.resolve_left (fun q => by cases q)
  dsimp only [am_s1] at h
  split at h
  next y x r0 =>
    cases h
    exact lv_dmul hx hb hd hp.1 (k H locs ls hP hS hl)
  next => cases h
set_option maxHeartbeats 1000000 in
theorem am_s_dsub (F : am_fix p s m args c cc R cells slots ρ D cA base o nL scr)  {len pc : Nat} {lv : am_L} {st : List am_V} {M : am_M} {r : List Prop × Nat × am_L × List am_V × am_M} (hd : decode cc pc = .ok (.dsub, len)) (hlen : am_len (.dsub) = 0 ∨ len = am_len (.dsub)) (h : am_s1 o nL scr (.dsub) pc lv st M = some r) (hp : am_all r.1)
    (k : am_at_ p l e R s m args below meth c cells slots Z ρ D cA base nL r.2.1 r.2.2.1 r.2.2.2.1 r.2.2.2.2) : am_at_ p l e R s m args below meth c cells slots Z ρ D cA base nL pc lv st M := by
  obtain ⟨hx, hb, hml, hts, hown, hρ, hE, hRf, hRl, hRc, hRs, hnL, hscr⟩ := F
  obtain ⟨hK, hstr, hnest, hcast, hdecl, hnc, hU, hN⟩ := hE
  intro H locs ls hP hS hl
  have hD := am_ρD (cA := cA) (M := M) hρ
  obtain rfl : len = 1 := hlen.resolve_left (fun q => by cases q)
  dsimp only [am_s1] at h
  split at h
  next y x r0 =>
    cases h
    exact lv_dsub hx hb hd hp.1 (k H locs ls hP hS hl)
  next => cases h
set_option maxHeartbeats 1000000 in
theorem am_s_dcmp (F : am_fix p s m args c cc R cells slots ρ D cA base o nL scr) (op : CmpOp) {len pc : Nat} {lv : am_L} {st : List am_V} {M : am_M} {r : List Prop × Nat × am_L × List am_V × am_M} (hd : decode cc pc = .ok (.dcmp op, len)) (hlen : am_len (.dcmp op) = 0 ∨ len = am_len (.dcmp op)) (h : am_s1 o nL scr (.dcmp op) pc lv st M = some r) (hp : am_all r.1)
    (k : am_at_ p l e R s m args below meth c cells slots Z ρ D cA base nL r.2.1 r.2.2.1 r.2.2.2.1 r.2.2.2.2) : am_at_ p l e R s m args below meth c cells slots Z ρ D cA base nL pc lv st M := by
  obtain ⟨hx, hb, hml, hts, hown, hρ, hE, hRf, hRl, hRc, hRs, hnL, hscr⟩ := F
  obtain ⟨hK, hstr, hnest, hcast, hdecl, hnc, hU, hN⟩ := hE
  intro H locs ls hP hS hl
  have hD := am_ρD (cA := cA) (M := M) hρ
  obtain rfl : len = 1 := hlen.resolve_left (fun q => by cases q)
  dsimp only [am_s1] at h
  split at h
  next y x r0 =>
    cases h
    have k1 := k H locs ls hP hS hl
    refine lv_dcmp hx hb hd ?_
    rw [← am_of32 (Op.cmpValue (FP.dcmp x y) op)]
    exact k1
  next => cases h
set_option maxHeartbeats 1000000 in
theorem am_s_dup (F : am_fix p s m args c cc R cells slots ρ D cA base o nL scr)  {len pc : Nat} {lv : am_L} {st : List am_V} {M : am_M} {r : List Prop × Nat × am_L × List am_V × am_M} (hd : decode cc pc = .ok (.dup, len)) (hlen : am_len (.dup) = 0 ∨ len = am_len (.dup)) (h : am_s1 o nL scr (.dup) pc lv st M = some r) (hp : am_all r.1)
    (k : am_at_ p l e R s m args below meth c cells slots Z ρ D cA base nL r.2.1 r.2.2.1 r.2.2.2.1 r.2.2.2.2) : am_at_ p l e R s m args below meth c cells slots Z ρ D cA base nL pc lv st M := by
  obtain ⟨hx, hb, hml, hts, hown, hρ, hE, hRf, hRl, hRc, hRs, hnL, hscr⟩ := F
  obtain ⟨hK, hstr, hnest, hcast, hdecl, hnc, hU, hN⟩ := hE
  intro H locs ls hP hS hl
  have hD := am_ρD (cA := cA) (M := M) hρ
  obtain rfl : len = 1 := hlen.resolve_left (fun q => by cases q)
  dsimp only [am_s1] at h
  split at h
  next x r0 => cases h; exact lv_dup hx hb hd rfl (k H locs ls hP hS hl)
  next x r0 => cases h; exact lv_dup hx hb hd (am_cat_cv ρ (.inr (.inl x))) (k H locs ls hP hS hl)
  next => cases h
set_option maxHeartbeats 1000000 in
theorem am_s_dup2 (F : am_fix p s m args c cc R cells slots ρ D cA base o nL scr)  {len pc : Nat} {lv : am_L} {st : List am_V} {M : am_M} {r : List Prop × Nat × am_L × List am_V × am_M} (hd : decode cc pc = .ok (.dup2, len)) (hlen : am_len (.dup2) = 0 ∨ len = am_len (.dup2)) (h : am_s1 o nL scr (.dup2) pc lv st M = some r) (hp : am_all r.1)
    (k : am_at_ p l e R s m args below meth c cells slots Z ρ D cA base nL r.2.1 r.2.2.1 r.2.2.2.1 r.2.2.2.2) : am_at_ p l e R s m args below meth c cells slots Z ρ D cA base nL pc lv st M := by
  obtain ⟨hx, hb, hml, hts, hown, hρ, hE, hRf, hRl, hRc, hRs, hnL, hscr⟩ := F
  obtain ⟨hK, hstr, hnest, hcast, hdecl, hnc, hU, hN⟩ := hE
  intro H locs ls hP hS hl
  have hD := am_ρD (cA := cA) (M := M) hρ
  obtain rfl : len = 1 := hlen.resolve_left (fun q => by cases q)
  dsimp only [am_s1] at h
  split at h
  next y x r0 => cases h; exact lv_dup2_11 hx hb hd rfl (am_cat_cv ρ (.inr (.inl x))) (k H locs ls hP hS hl)
  next => cases h
set_option maxHeartbeats 1000000 in
theorem am_s_pop (F : am_fix p s m args c cc R cells slots ρ D cA base o nL scr)  {len pc : Nat} {lv : am_L} {st : List am_V} {M : am_M} {r : List Prop × Nat × am_L × List am_V × am_M} (hd : decode cc pc = .ok (.pop, len)) (hlen : am_len (.pop) = 0 ∨ len = am_len (.pop)) (h : am_s1 o nL scr (.pop) pc lv st M = some r) (hp : am_all r.1)
    (k : am_at_ p l e R s m args below meth c cells slots Z ρ D cA base nL r.2.1 r.2.2.1 r.2.2.2.1 r.2.2.2.2) : am_at_ p l e R s m args below meth c cells slots Z ρ D cA base nL pc lv st M := by
  obtain ⟨hx, hb, hml, hts, hown, hρ, hE, hRf, hRl, hRc, hRs, hnL, hscr⟩ := F
  obtain ⟨hK, hstr, hnest, hcast, hdecl, hnc, hU, hN⟩ := hE
  intro H locs ls hP hS hl
  have hD := am_ρD (cA := cA) (M := M) hρ
  obtain rfl : len = 1 := hlen.resolve_left (fun q => by cases q)
  dsimp only [am_s1] at h
  split at h
  next x r0 => cases h; exact lv_pop hx hb hd rfl (k H locs ls hP hS hl)
  next x r0 => cases h; exact lv_pop hx hb hd (am_cat_cv ρ (.inr (.inl x))) (k H locs ls hP hS hl)
  next => cases h
set_option maxHeartbeats 1000000 in
theorem am_s_goto (F : am_fix p s m args c cc R cells slots ρ D cA base o nL scr) (off : Int) {len pc : Nat} {lv : am_L} {st : List am_V} {M : am_M} {r : List Prop × Nat × am_L × List am_V × am_M} (hd : decode cc pc = .ok (.goto off, len)) (hlen : am_len (.goto off) = 0 ∨ len = am_len (.goto off)) (h : am_s1 o nL scr (.goto off) pc lv st M = some r) (hp : am_all r.1)
    (k : am_at_ p l e R s m args below meth c cells slots Z ρ D cA base nL r.2.1 r.2.2.1 r.2.2.2.1 r.2.2.2.2) : am_at_ p l e R s m args below meth c cells slots Z ρ D cA base nL pc lv st M := by
  obtain ⟨hx, hb, hml, hts, hown, hρ, hE, hRf, hRl, hRc, hRs, hnL, hscr⟩ := F
  obtain ⟨hK, hstr, hnest, hcast, hdecl, hnc, hU, hN⟩ := hE
  intro H locs ls hP hS hl
  have hD := am_ρD (cA := cA) (M := M) hρ
  obtain rfl : len = 3 := hlen.resolve_left (fun q => by cases q)
  dsimp only [am_s1] at h
  obtain ⟨t, e1, e2⟩ := Option.map_eq_some_iff.mp h
  cases e2
  exact lv_goto hx hb hd (am_tg_eq e1) (k H locs ls hP hS hl)
set_option maxHeartbeats 1000000 in
theorem am_s_getfield (F : am_fix p s m args c cc R cells slots ρ D cA base o nL scr) (i : Nat) {len pc : Nat} {lv : am_L} {st : List am_V} {M : am_M} {r : List Prop × Nat × am_L × List am_V × am_M} (hd : decode cc pc = .ok (.getfield i, len)) (hlen : am_len (.getfield i) = 0 ∨ len = am_len (.getfield i)) (h : am_s1 o nL scr (.getfield i) pc lv st M = some r) (hp : am_all r.1)
    (k : am_at_ p l e R s m args below meth c cells slots Z ρ D cA base nL r.2.1 r.2.2.1 r.2.2.2.1 r.2.2.2.2) : am_at_ p l e R s m args below meth c cells slots Z ρ D cA base nL pc lv st M := by
  obtain ⟨hx, hb, hml, hts, hown, hρ, hE, hRf, hRl, hRc, hRs, hnL, hscr⟩ := F
  obtain ⟨hK, hstr, hnest, hcast, hdecl, hnc, hU, hN⟩ := hE
  intro H locs ls hP hS hl
  have hD := am_ρD (cA := cA) (M := M) hρ
  obtain rfl : len = 3 := hlen.resolve_left (fun q => by cases q)
  dsimp only [am_s1] at h
  split at h
  next a r0 =>
    split at h
    next ci j t ci' fk e1 e2 =>
      obtain ⟨C, T, N, g1, g2, g3, -⟩ := am_flf e1
      split at h
      next e3 e4 =>
        cases h
        have e5 : ci = ci' := Nat.eq_of_beq_eq_true e3
        subst e5
        exact va_get (D := D) (own := tb_cn o) (ref := (T j).1) hx hb hts (am_clf g1).1 hown hK hP a (am_ws_at e2) g1 j g2 (hts _ g3) (fun _ q => q) (am_fs_at e4) hd (k H locs ls hP hS hl)
      next b0 e3 e4 =>
        cases h
        have e5 : ci = ci' := Nat.eq_of_beq_eq_true e3
        subst e5
        exact va_get (D := D) (own := tb_cn o) (ref := (T j).1) hx hb hts (am_clf g1).1 hown hK hP a (am_ws_at e2) g1 j g2 (hts _ g3) (fun _ q => q) (am_fs_at e4) hd (k H locs ls hP hS hl)
      next => cases h
    next => cases h
  next => cases h
set_option maxHeartbeats 1000000 in
theorem am_s_putfield (F : am_fix p s m args c cc R cells slots ρ D cA base o nL scr) (i : Nat) {len pc : Nat} {lv : am_L} {st : List am_V} {M : am_M} {r : List Prop × Nat × am_L × List am_V × am_M} (hd : decode cc pc = .ok (.putfield i, len)) (hlen : am_len (.putfield i) = 0 ∨ len = am_len (.putfield i)) (h : am_s1 o nL scr (.putfield i) pc lv st M = some r) (hp : am_all r.1)
    (k : am_at_ p l e R s m args below meth c cells slots Z ρ D cA base nL r.2.1 r.2.2.1 r.2.2.2.1 r.2.2.2.2) : am_at_ p l e R s m args below meth c cells slots Z ρ D cA base nL pc lv st M := by
  obtain ⟨hx, hb, hml, hts, hown, hρ, hE, hRf, hRl, hRc, hRs, hnL, hscr⟩ := F
  obtain ⟨hK, hstr, hnest, hcast, hdecl, hnc, hU, hN⟩ := hE
  intro H locs ls hP hS hl
  have hD := am_ρD (cA := cA) (M := M) hρ
  obtain rfl : len = 3 := hlen.resolve_left (fun q => by cases q)
  dsimp only [am_s1] at h
  split at h
  next x a r0 =>
    split at h
    next ci j t ci' fk e1 e2 =>
      obtain ⟨C, T, N, g1, g2, g3, g4, g5⟩ := am_flf e1
      split at h
      next e3 e4 =>
        cases h
        have e5 : ci = ci' := Nat.eq_of_beq_eq_true e3
        subst e5
        obtain ⟨t1, t2⟩ := g4 rfl
        obtain ⟨c1, ⟨ty0, c2⟩, c3⟩ := am_clf g1
        refine va_put (D := D) (own := tb_cn o) (ref := (T j).1) hx hb hts c1 ty0 c2 c3 hown hK hP hD hS a (am_ws_at e2) g1 j g2 (hts _ g3) (fun _ q => q) t2 t1 rfl rfl (by unfold am_fs; rw [List.length_mapIdx]; exact (List.getElem?_eq_some_iff.mp e4).1) hd (fun H1 locs1 hP1 _ hS1 => ?_)
        change va_P D tb_cl ((am_ws ρ cA M).set a (ρ a, .inr (ci, (am_fs ρ M a fk).set j (.int (Int32.ofInt x))))) H1 at hP1
        rw [am_fs_set e4] at hP1
        have e6 := am_ws_set (ρ := ρ) (cA := cA) (M := M) (M' := am_up M a (j : Nat) x) e2 am_up_ne
        change va_P D tb_cl ((am_ws ρ cA M).set a (ρ a, am_ent ρ cA (am_up M a (j : Nat) x) a (.inr (.inr (ci, fk))))) H1 at hP1
        rw [e6] at hP1
        exact k H1 locs1 ls hP1 hS1 hl
      next e3 e4 =>
        cases h
        have e5 : ci = ci' := Nat.eq_of_beq_eq_true e3
        subst e5
        obtain ⟨t1, t2⟩ := g5 rfl
        obtain ⟨c1, ⟨ty0, c2⟩, c3⟩ := am_clf g1
        refine va_put (D := D) (own := tb_cn o) (ref := (T j).1) hx hb hts c1 ty0 c2 c3 hown hK hP hD hS a (am_ws_at e2) g1 j g2 (hts _ g3) (fun _ q => q) t2 t1 (by rcases hp.1 with rfl | rfl <;> rfl) (by rcases hp.1 with rfl | rfl <;> rfl) (by unfold am_fs; rw [List.length_mapIdx]; exact (List.getElem?_eq_some_iff.mp e4).1) hd (fun H1 locs1 hP1 _ hS1 => ?_)
        change va_P D tb_cl ((am_ws ρ cA M).set a (ρ a, .inr (ci, (am_fs ρ M a fk).set j (.int (Int32.ofInt x))))) H1 at hP1
        rw [am_fs_set e4] at hP1
        have e6 := am_ws_set (ρ := ρ) (cA := cA) (M := M) (M' := am_up M a (j : Nat) x) e2 am_up_ne
        change va_P D tb_cl ((am_ws ρ cA M).set a (ρ a, am_ent ρ cA (am_up M a (j : Nat) x) a (.inr (.inr (ci, fk))))) H1 at hP1
        rw [e6] at hP1
        exact k H1 locs1 ls hP1 hS1 hl
      next => cases h
    next => cases h
  next => cases h
set_option maxHeartbeats 1000000 in
theorem am_s_iaload (F : am_fix p s m args c cc R cells slots ρ D cA base o nL scr)  {len pc : Nat} {lv : am_L} {st : List am_V} {M : am_M} {r : List Prop × Nat × am_L × List am_V × am_M} (hd : decode cc pc = .ok (.iaload, len)) (hlen : am_len (.iaload) = 0 ∨ len = am_len (.iaload)) (h : am_s1 o nL scr (.iaload) pc lv st M = some r) (hp : am_all r.1)
    (k : am_at_ p l e R s m args below meth c cells slots Z ρ D cA base nL r.2.1 r.2.2.1 r.2.2.2.1 r.2.2.2.2) : am_at_ p l e R s m args below meth c cells slots Z ρ D cA base nL pc lv st M := by
  obtain ⟨hx, hb, hml, hts, hown, hρ, hE, hRf, hRl, hRc, hRs, hnL, hscr⟩ := F
  obtain ⟨hK, hstr, hnest, hcast, hdecl, hnc, hU, hN⟩ := hE
  intro H locs ls hP hS hl
  have hD := am_ρD (cA := cA) (M := M) hρ
  obtain rfl : len = 1 := hlen.resolve_left (fun q => by cases q)
  dsimp only [am_s1] at h
  split at h
  next i a r0 =>
    split at h
    next n e2 =>
      cases h
      obtain ⟨v1, v2⟩ := am_vpin (am_lay_n e2) hp.1
      have k1 := k H locs ls hP hS hl
      refine va_iald hx hb hK hP a 0 (am_ws_at e2) rfl v1 hd ?_
      rw [v2, show ((i.toNat : Nat) : Int) = i from Int.toNat_of_nonneg hp.1.1]
      exact k1
    next L xs e2 =>
      split at h
      next e3 =>
        cases h
        have e4 : a = 999 := Nat.eq_of_beq_eq_true e3
        subst e4
        obtain ⟨n, f, rfl, hn, hX, hbl, hbA, hf⟩ := hscr
        obtain ⟨v1, v2⟩ := am_vpin hn hp.1
        have k1 := k H locs ls hP hS hl
        refine va_sld hx hb hX hbl hbA hS v1 hd ?_
        obtain ⟨q1, q2⟩ := hp.1
        rw [v2, ← hf i.toNat (by omega), show ((i.toNat : Nat) : Int) = i from Int.toNat_of_nonneg hp.1.1]
        exact k1
      next => cases h
    next => cases h
  next => cases h
set_option maxHeartbeats 1000000 in
theorem am_s_iastore (F : am_fix p s m args c cc R cells slots ρ D cA base o nL scr)  {len pc : Nat} {lv : am_L} {st : List am_V} {M : am_M} {r : List Prop × Nat × am_L × List am_V × am_M} (hd : decode cc pc = .ok (.iastore, len)) (hlen : am_len (.iastore) = 0 ∨ len = am_len (.iastore)) (h : am_s1 o nL scr (.iastore) pc lv st M = some r) (hp : am_all r.1)
    (k : am_at_ p l e R s m args below meth c cells slots Z ρ D cA base nL r.2.1 r.2.2.1 r.2.2.2.1 r.2.2.2.2) : am_at_ p l e R s m args below meth c cells slots Z ρ D cA base nL pc lv st M := by
  obtain ⟨hx, hb, hml, hts, hown, hρ, hE, hRf, hRl, hRc, hRs, hnL, hscr⟩ := F
  obtain ⟨hK, hstr, hnest, hcast, hdecl, hnc, hU, hN⟩ := hE
  intro H locs ls hP hS hl
  have hD := am_ρD (cA := cA) (M := M) hρ
  obtain rfl : len = 1 := hlen.resolve_left (fun q => by cases q)
  dsimp only [am_s1] at h
  split at h
  next x i a r0 =>
    split at h
    next n e2 =>
      cases h
      obtain ⟨v1, v2⟩ := am_vpin (am_lay_n e2) hp.1
      refine va_iast hx hb hK hP hD hS a 0 (am_ws_at e2) rfl v1 hd (fun H1 locs1 hP1 _ hS1 => ?_)
      rw [v2, am_updI hp.1] at hP1
      have e6 := am_ws_set (ρ := ρ) (cA := cA) (M := M) (M' := am_up M a i x) e2 am_up_ne
      change va_P D tb_cl ((am_ws ρ cA M).set a (ρ a, am_ent ρ cA (am_up M a i x) a (.inl (.inl n)))) H1 at hP1
      rw [e6] at hP1
      exact k H1 locs1 ls hP1 hS1 hl
    next => cases h
  next => cases h
set_option maxHeartbeats 1000000 in
theorem am_s_arraylength (F : am_fix p s m args c cc R cells slots ρ D cA base o nL scr)  {len pc : Nat} {lv : am_L} {st : List am_V} {M : am_M} {r : List Prop × Nat × am_L × List am_V × am_M} (hd : decode cc pc = .ok (.arraylength, len)) (hlen : am_len (.arraylength) = 0 ∨ len = am_len (.arraylength)) (h : am_s1 o nL scr (.arraylength) pc lv st M = some r) (hp : am_all r.1)
    (k : am_at_ p l e R s m args below meth c cells slots Z ρ D cA base nL r.2.1 r.2.2.1 r.2.2.2.1 r.2.2.2.2) : am_at_ p l e R s m args below meth c cells slots Z ρ D cA base nL pc lv st M := by
  obtain ⟨hx, hb, hml, hts, hown, hρ, hE, hRf, hRl, hRc, hRs, hnL, hscr⟩ := F
  obtain ⟨hK, hstr, hnest, hcast, hdecl, hnc, hU, hN⟩ := hE
  intro H locs ls hP hS hl
  have hD := am_ρD (cA := cA) (M := M) hρ
  obtain rfl : len = 1 := hlen.resolve_left (fun q => by cases q)
  dsimp only [am_s1] at h
  split at h
  next a r0 =>
    split at h
    next rs e2 =>
      cases h
      exact va_alen (ty := .object RX2) hx hb hK hP a 2 (am_ws_at e2) rfl rfl hd (k H locs ls hP hS hl)
    next L xs e2 =>
      split at h
      next e3 =>
        cases h
        have e4 : a = 999 := Nat.eq_of_beq_eq_true e3
        subst e4
        obtain ⟨n, f, rfl, hn, hX, hbl, hbA, hf⟩ := hscr
        exact va_slen hx hb hX hbl hbA hS hd (k H locs ls hP hS hl)
      next => cases h
    next => cases h
  next => cases h
set_option maxHeartbeats 1000000 in
theorem am_s_invokestatic (F : am_fix p s m args c cc R cells slots ρ D cA base o nL scr) (i : Nat) {len pc : Nat} {lv : am_L} {st : List am_V} {M : am_M} {r : List Prop × Nat × am_L × List am_V × am_M} (hd : decode cc pc = .ok (.invokestatic i, len)) (hlen : am_len (.invokestatic i) = 0 ∨ len = am_len (.invokestatic i)) (h : am_s1 o nL scr (.invokestatic i) pc lv st M = some r) (hp : am_all r.1)
    (k : am_at_ p l e R s m args below meth c cells slots Z ρ D cA base nL r.2.1 r.2.2.1 r.2.2.2.1 r.2.2.2.2) : am_at_ p l e R s m args below meth c cells slots Z ρ D cA base nL pc lv st M := by
  obtain ⟨hx, hb, hml, hts, hown, hρ, hE, hRf, hRl, hRc, hRs, hnL, hscr⟩ := F
  obtain ⟨hK, hstr, hnest, hcast, hdecl, hnc, hU, hN⟩ := hE
  intro H locs ls hP hS hl
  have hD := am_ρD (cA := cA) (M := M) hρ
  obtain rfl : len = 3 := hlen.resolve_left (fun q => by cases q)
  dsimp only [am_s1] at h
  have hsz : c.maxLocals = ls.size := hml.trans hl.1.symm
  split at h
  next y x r0 e1 =>
    cases h
    obtain ⟨⟨q1, q2, q3⟩, -⟩ := hp
    have k1 := k H locs ls hP hS hl
    refine va_mmax hx hb hsz hown (hts _ (am_macf e1)) (hts _ (am_ma (by simp))) (hts _ (am_ma (by simp))) (hts _ (am_ma (by simp))) (by omega) (by rw [am_cs_cv]; omega) hRc hRs hd ?_
    rw [am_mx q1 q2]
    exact k1
  next y x r0 e1 =>
    cases h
    obtain ⟨⟨q1, q2, q3⟩, -⟩ := hp
    have k1 := k H locs ls hP hS hl
    refine va_mmin hx hb hsz hown (hts _ (am_macf e1)) (hts _ (am_ma (by simp))) (hts _ (am_ma (by simp))) (hts _ (am_ma (by simp))) (by omega) (by rw [am_cs_cv]; omega) hRc hRs hd ?_
    rw [am_mn q1 q2]
    exact k1
  next x r0 e1 =>
    cases h
    obtain ⟨⟨q1, q3⟩, -⟩ := hp
    have k1 := k H locs ls hP hS hl
    refine va_mabs hx hb hsz hown (hts _ (am_macf e1)) (hts _ (am_ma (by simp))) (hts _ (am_ma (by simp))) (hts _ (am_ma (by simp))) (by omega) (by rw [am_cs_cv]; omega) hRc hRs hd ?_
    rw [am_ab q1]
    exact k1
  next n dp a1 sp a0 r0 e1 =>
    split at h
    next n0 n1 e2 e3 =>
      cases h
      obtain ⟨⟨rfl, rfl, q1, q2, q3, q4⟩, -⟩ := hp
      have en : Int32.ofInt n = nI n.toNat := by
        unfold nI
        rw [show n = ((n.toNat : Nat) : Int) by omega]
        rfl
      have hn0 := am_lay_n e2
      have ec : (Int32.ofInt n).toNatClampNeg = n.toNat := by rw [en]; exact nI_clamp (by omega)
      have hw : nativeFrameWords "java/lang/System" "arraycopy" 5 + 11 ≤ 32 := by decide
      refine va_copyi (sp := 0) (dp := 0) (n := Int32.ofInt n) hx hb hsz hown (hts _ (am_macf e1)) (hts _ (am_ma (by simp))) (hts _ (am_ma (by simp))) (hts _ (am_ma (by simp))) hK hP hD hS a0 a1 0 0 (am_ws_at e2) (am_ws_at e3) rfl rfl rfl (by decide) (by decide) (by rw [en]; exact nI_pos (by omega)) (by rw [ec]; show 0 + n.toNat ≤ n0; omega) (by rw [ec]; show 0 + n.toNat ≤ n1; omega) (fun _ _ => rfl) (by omega) (by rw [am_cs_cv]; omega) hd (fun H1 locs1 hP1 _ hS1 => ?_)
      rw [ec] at hP1
      have e6 := am_ws_set (ρ := ρ) (cA := cA) (M := M) (M' := am_cp M a0 a1 n) e3 (fun a' j h => by unfold am_cp; rw [if_neg (fun q => h q.1)])
      have e7 : va_cpy (fun j => Int32.ofInt (M a0 j)) (fun j => Int32.ofInt (M a1 j)) ((0 : Int32).toNatClampNeg) ((0 : Int32).toNatClampNeg) n.toNat = fun (j : Nat) => Int32.ofInt (am_cp M a0 a1 n a1 j) := by
        funext j
        show va_cpy _ _ 0 0 n.toNat j = _
        unfold va_cpy am_cp
        by_cases hj : j < n.toNat
        · rw [if_pos ⟨Nat.zero_le _, by omega⟩, if_pos ⟨rfl, by omega, by omega⟩, Nat.sub_zero, Nat.zero_add]
        · rw [if_neg (fun q => hj (by omega)), if_neg (fun q => hj (by omega))]
      rw [e7] at hP1
      change va_P D tb_cl ((am_ws ρ cA M).set a1 (ρ a1, am_ent ρ cA (am_cp M a0 a1 n) a1 (.inl (.inl n1)))) H1 at hP1
      rw [e6] at hP1
      exact k H1 locs1 ls hP1 hS1 hl
    next => cases h
  next k0 a r0 e1 =>
    split at h
    next L xs e2 =>
      cases h
      obtain ⟨⟨q1, q0, q3⟩, -⟩ := hp
      have e4 : a = 999 := Nat.eq_of_beq_eq_true e2
      subst e4
      obtain ⟨n, f, rfl, hn, hX, hbl, hbA, hf⟩ := hscr
      have hp9 : PreS s H (va_Pc [.ref (ρ 999), .int (Int32.ofInt k0)] (fun U => va_X (ρ 999) n f U U.heap)) [.ref (ρ 999), .int (Int32.ofInt k0)] := ⟨fun a U g mk q => ⟨q.1, va_X.moved (u := U) (U := U.calling g mk a) (Vm.Alike.refl U.vm) q.2⟩, fun U hU hW => ⟨rfl, va_X.moved hW.alike (hX.kept (by rw [hU]; exact hS.2.1 _ hbl hbA))⟩⟩
      refine va_calli (A1 := fun _ => False) (mc := 0) (ms := 0) (va_runS (Ts := am_GL) (rest := r0.map (am_cv ρ)) (n := 2) (free := fun _ => False) ⟨hx, hb, hml, hown, hts⟩ (cc_cell l hn q1 q0 hf) (va_cwS 2 hts (cell_words (am_macf e1)) rfl rfl rfl ⟨by decide +kernel, by decide +kernel, by decide +kernel⟩ ⟨by show 0 + 1 ≤ R.frames; omega, by show 8 + (2 + 11) + 0 ≤ R.locals; omega⟩) hp9 rfl rfl hl.1 rfl (lv_room (by rw [am_cs_cv]; omega)) hd ⟨by omega, by omega⟩) hS (fun _ _ q => q.elim) (fun _ q => q.elim) (fun r u t H1 locs1 ht hvm hr _ hz hk hS1 => ?_)
      have hP1 : va_P D tb_cl (am_ws ρ cA M) H1 := hP.kept (fun k q hkq => hk q.1 (va_at.lt (hP k q hkq)) (fun z => z))
      have k1 := k H1 locs1 ls hP1 hS1 hl
      have hr2 : r = Int32.ofInt (am_ce n xs k0) := by rw [hr]; unfold am_ce; rw [am_of32]
      rw [hr2]
      exact k1
    next => cases h
  next => cases h
set_option maxHeartbeats 1000000 in
theorem am_sim1 (F : am_fix p s m args c cc R cells slots ρ D cA base o nL scr) {ins : Instr} {len pc : Nat} {lv : am_L} {st : List am_V} {M : am_M} {r : List Prop × Nat × am_L × List am_V × am_M} (hd : decode cc pc = .ok (ins, len)) (hlen : am_len ins = 0 ∨ len = am_len ins) (h : am_s1 o nL scr ins pc lv st M = some r) (hp : am_all r.1)
    (k : am_at_ p l e R s m args below meth c cells slots Z ρ D cA base nL r.2.1 r.2.2.1 r.2.2.2.1 r.2.2.2.2) : am_at_ p l e R s m args below meth c cells slots Z ρ D cA base nL pc lv st M := by
  cases ins with
  | iconst n => exact am_s_iconst F n hd hlen h hp k
  | bipush n => exact am_s_bipush F n hd hlen h hp k
  | sipush n => exact am_s_sipush F n hd hlen h hp k
  | lconst n => exact am_s_lconst F n hd hlen h hp k
  | dconst n => exact am_s_dconst F n hd hlen h hp k
  | aconst_null => exact am_s_aconst_null F  hd hlen h hp k
  | ldc i => exact am_s_ldc F i hd hlen h hp k
  | ldc2_w i => exact am_s_ldc2_w F i hd hlen h hp k
  | iload i => exact am_s_iload F i hd hlen h hp k
  | iload_n i => exact am_s_iload_n F i hd hlen h hp k
  | lload i => exact am_s_lload F i hd hlen h hp k
  | lload_n i => exact am_s_lload_n F i hd hlen h hp k
  | dload i => exact am_s_dload F i hd hlen h hp k
  | dload_n i => exact am_s_dload_n F i hd hlen h hp k
  | aload i => exact am_s_aload F i hd hlen h hp k
  | aload_n i => exact am_s_aload_n F i hd hlen h hp k
  | istore i => exact am_s_istore F i hd hlen h hp k
  | istore_n i => exact am_s_istore_n F i hd hlen h hp k
  | lstore i => exact am_s_lstore F i hd hlen h hp k
  | lstore_n i => exact am_s_lstore_n F i hd hlen h hp k
  | dstore i => exact am_s_dstore F i hd hlen h hp k
  | dstore_n i => exact am_s_dstore_n F i hd hlen h hp k
  | astore i => exact am_s_astore F i hd hlen h hp k
  | astore_n i => exact am_s_astore_n F i hd hlen h hp k
  | iinc i n => exact am_s_iinc F i n hd hlen h hp k
  | iadd => exact am_s_iadd F  hd hlen h hp k
  | isub => exact am_s_isub F  hd hlen h hp k
  | imul => exact am_s_imul F  hd hlen h hp k
  | ladd => exact am_s_ladd F  hd hlen h hp k
  | lsub => exact am_s_lsub F  hd hlen h hp k
  | lmul => exact am_s_lmul F  hd hlen h hp k
  | ishr => exact am_s_ishr F  hd hlen h hp k
  | iand => exact am_s_iand F  hd hlen h hp k
  | ior => exact am_s_ior F  hd hlen h hp k
  | ixor => exact am_s_ixor F  hd hlen h hp k
  | ineg => exact am_s_ineg F  hd hlen h hp k
  | idiv => exact am_s_idiv F  hd hlen h hp k
  | irem => exact am_s_irem F  hd hlen h hp k
  | ldiv => exact am_s_ldiv F  hd hlen h hp k
  | i2l => exact am_s_i2l F  hd hlen h hp k
  | l2i => exact am_s_l2i F  hd hlen h hp k
  | i2d => exact am_s_i2d F  hd hlen h hp k
  | d2l => exact am_s_d2l F  hd hlen h hp k
  | lshl => exact am_s_lshl F  hd hlen h hp k
  | lcmp => exact am_s_lcmp F  hd hlen h hp k
  | ddiv => exact am_s_ddiv F  hd hlen h hp k
  | dmul => exact am_s_dmul F  hd hlen h hp k
  | dsub => exact am_s_dsub F  hd hlen h hp k
  | dcmp op => exact am_s_dcmp F op hd hlen h hp k
  | dup => exact am_s_dup F  hd hlen h hp k
  | dup2 => exact am_s_dup2 F  hd hlen h hp k
  | pop => exact am_s_pop F  hd hlen h hp k
  | goto off => exact am_s_goto F off hd hlen h hp k
  | getfield i => exact am_s_getfield F i hd hlen h hp k
  | putfield i => exact am_s_putfield F i hd hlen h hp k
  | iaload => exact am_s_iaload F  hd hlen h hp k
  | iastore => exact am_s_iastore F  hd hlen h hp k
  | arraylength => exact am_s_arraylength F  hd hlen h hp k
  | invokestatic i => exact am_s_invokestatic F i hd hlen h hp k
  | _ => cases h
end AMS2
