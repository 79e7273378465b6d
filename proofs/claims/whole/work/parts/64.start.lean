/-! The first memory, and the relation at the start. -/
def M0 : am_M := fun a j => match a with
  | 6 => if j = 0 then 10 else if j = 1 then 100 else 0
  | 21 => if j = 0 then 10 else if j = 1 then 100 else 0
  | 29 => if j = 0 then 10 else if j = 1 then 100 else 0
  | 37 => if j = 0 then 10 else if j = 1 then 100 else 0
  | 45 => if j = 0 then 10 else if j = 1 then 100 else 0
  | 53 => if j = 0 then 10 else if j = 1 then 100 else 0
  | 61 => if j = 0 then 10 else if j = 1 then 100 else 0
  | 70 => if j = 4 then 10 else if j = 5 then 100 else 0
  | 73 => if j = 1 then 1 else 0
  | 74 => if j = 0 then 500 else if j = 1 then 2000 else if j = 2 then 1 else 0
  | _ => 0
theorem Rel_0 : Rel 0 M0 := by
  have n7 : M0 1 7 = 0 := rfl
  have n8 : M0 1 8 = 0 := rfl
  have n14 : M0 14 2 = 0 := rfl
  have n64 : M0 64 1 = 0 := rfl
  refine ⟨⟨?_, ?_, Or.inl rfl, ⟨by decide, by decide⟩, ⟨by decide, by decide⟩, ⟨by decide, by decide⟩, fun i h0 h1 => absurd h1 (by rw [n64]; omega)⟩, ?_, rfl, ?_, ⟨rfl, ⟨by decide, by decide⟩, fun i h0 h1 => absurd h1 (by rw [n64]; omega)⟩, ⟨rfl, rfl, rfl, rfl, rfl, rfl⟩⟩
  · refine ⟨⟨by decide, by decide⟩, fun i h0 h1 => absurd h1 (by rw [n7]; omega), fun i j h0 h1 h2 => absurd h2 (by rw [n7]; omega), ⟨by decide, by decide⟩, ⟨by decide, by decide⟩, Or.inl rfl, ⟨by decide, by decide⟩, fun k h0 h1 => absurd h1 (by rw [n8]; omega), ⟨by decide, by decide⟩, ⟨by decide, by decide⟩, by decide, by decide⟩
  · intro i h
    rw [n7] at h
    omega
  · refine ⟨rfl, rfl, rfl, rfl, rfl, rfl, rfl, fun i h0 h1 => absurd h1 (by rw [n7]; omega), fun k h0 h1 => absurd h1 (by rw [n8]; omega)⟩
  · intro s h0 h1
    rw [n14] at h1
    omega
/-- the law's loop, from the start -/
theorem law_0 {Q : Int → am_M → Prop} {X : am_X} {scr : Int × (Int → Int)} (hl : 0 ≤ scr.1 ∧ scr.1 ≤ 1536) (hsc : ∀ i, 0 ≤ i → i < scr.1 → am_rg (scr.2 i)) (hQ : ∀ M, Q 1 M) : wl_L_law_23 Q X scr 512 513 0 0 M0 :=
  law_ok (Nat.le_refl _) hl hsc hQ 512 0 0 M0 (by omega) (Nat.le_refl _) (by omega) Rel_0
/-! The start's rules: new rows of ints, of longs, of saved diaries, in classes known once. -/
section L3
variable {p : Program} {l : Launch} {e : Env} {R : Room} {s : State} {m : MethodId} {args : Array Value} {below : List Frame} {meth : Method} {c : Code} {H : Heap} {locs : List Loc} {cells slots : Nat} {Q : State → Prop}
variable {cc : ByteArray} {pc : Nat} {ls : Array Slot} {rest : List Value} {D : va_G} {A : Nat → Prop} {ws : va_W} {H0 : Heap} {cA : Nat → ClassId}
abbrev zi (cA : Nat → ClassId) (n : Nat) : va_E := .inl (cA 0, n, .inl (fun _ => 0))
theorem l3_newi (hexec : p.tables.exec = Jvm.exec) (hb : c.code = cc) (harr : (Cond.arrayClass .int).before args s = true) (hK : va_K D tb_cl (am_tys cA) s) (hP : va_P D tb_cl ws H) (hD : va_D A ws) (hS : va_S A H0 H locs) (hA : ∀ q, H0.size ≤ q → A q)
    {n : Int32} {N' c' s' : Nat} (hn : ¬ n < 0) (hN : n.toNatClampNeg = N') (hbytes : N' * 4 ≤ 536870912) (hc' : cells + 1 = c') (hs' : slots + N' = s') (hcells : c' ≤ R.cells) (hslots : s' ≤ R.slots) (hdg : decode cc pc = .ok (.newarray .int, 2))
    (kk : ∀ (q : Nat) (H1 : Heap), va_P D tb_cl (ws ++ [(q, zi cA N')]) H1 → va_D A (ws ++ [(q, zi cA N')]) → va_S A H0 H1 locs → W p l e R s m args below meth c H1 locs c' s' Q (F0 m (pc + 2) ls (.ref q :: rest))) : W p l e R s m args below meth c H locs cells slots Q (F0 m pc ls (.int n :: rest)) := by
  subst hc'; subst hs'
  refine va_newa (atype := .int) (ty := .int) (a0 := (N', .inl (fun _ => 0))) hexec hb harr rfl hK hP hD hS hA (fun cA => rfl) hn hN hbytes hcells hslots hdg (fun q c0 H1 hK1 hP1 hD1 hS1 => ?_)
  have e : c0 = cA 0 := Option.some.inj (Eq.trans (Eq.symm (hK1.2 3 (c0, .int) rfl).2) (hK1.2 0 (cA 0, .int) rfl).2)
  subst e
  exact kk q H1 hP1 hD1 hS1
theorem l3_newl (hexec : p.tables.exec = Jvm.exec) (hb : c.code = cc) (harr : (Cond.arrayClass .long).before args s = true) (hK : va_K D tb_cl (am_tys cA) s) (hP : va_P D tb_cl ws H) (hD : va_D A ws) (hS : va_S A H0 H locs) (hA : ∀ q, H0.size ≤ q → A q)
    {n : Int32} {N' c' s' : Nat} (hn : ¬ n < 0) (hN : n.toNatClampNeg = N') (hbytes : N' * 8 ≤ 536870912) (hc' : cells + 1 = c') (hs' : slots + N' = s') (hcells : c' ≤ R.cells) (hslots : s' ≤ R.slots) (hdg : decode cc pc = .ok (.newarray .long, 2))
    (kk : ∀ (q : Nat) (H1 : Heap), va_P D tb_cl (ws ++ [(q, .inl (cA 1, N', .inr (.inl (fun _ => 0))))]) H1 → va_D A (ws ++ [(q, .inl (cA 1, N', .inr (.inl (fun _ => 0))))]) → va_S A H0 H1 locs → W p l e R s m args below meth c H1 locs c' s' Q (F0 m (pc + 2) ls (.ref q :: rest))) : W p l e R s m args below meth c H locs cells slots Q (F0 m pc ls (.int n :: rest)) := by
  subst hc'; subst hs'
  refine va_newa (atype := .long) (ty := .long) (a0 := (N', .inr (.inl (fun _ => 0)))) hexec hb harr rfl hK hP hD hS hA (fun cA => rfl) hn hN hbytes hcells hslots hdg (fun q c0 H1 hK1 hP1 hD1 hS1 => ?_)
  have e : c0 = cA 1 := Option.some.inj (Eq.trans (Eq.symm (hK1.2 3 (c0, .long) rfl).2) (hK1.2 1 (cA 1, .long) rfl).2)
  subst e
  exact kk q H1 hP1 hD1 hS1
theorem l3_newq (hexec : p.tables.exec = Jvm.exec) (hb : c.code = cc) {own : String} {index : Nat} (hown : s.vm.findClass own = some m.cls) (hclink : (Cond.classLink own index RX2).before args s = true) (hover : va_AO RX2 s) (hK : va_K D tb_cl (am_tys cA) s) (hP : va_P D tb_cl ws H) (hD : va_D A ws) (hS : va_S A H0 H locs) (hA : ∀ q, H0.size ≤ q → A q)
    {n : Int32} {N' c' s' : Nat} (hn : ¬ n < 0) (hN : n.toNatClampNeg = N') (hbytes : N' * 4 ≤ 536870912) (hc' : cells + 1 = c') (hs' : slots + N' = s') (hcells : c' ≤ R.cells) (hslots : s' ≤ R.slots) (hdg : decode cc pc = .ok (.anewarray index, 3))
    (kk : ∀ (q : Nat) (H1 : Heap), va_P D tb_cl (ws ++ [(q, .inl (cA 2, N', .inr (.inr (.inr (.inr (fun _ => none))))))]) H1 → va_D A (ws ++ [(q, .inl (cA 2, N', .inr (.inr (.inr (.inr (fun _ => none))))))]) → va_S A H0 H1 locs → W p l e R s m args below meth c H1 locs c' s' Q (F0 m (pc + 3) ls (.ref q :: rest))) : W p l e R s m args below meth c H locs cells slots Q (F0 m pc ls (.int n :: rest)) := by
  subst hc'; subst hs'
  refine va_newq hexec hb hown hclink hover hK hP hD hS hA hn hN hbytes hcells hslots hdg (fun q c0 H1 hK1 hP1 hD1 hS1 => ?_)
  obtain ⟨k1, d1, -, -, -, h1⟩ := (hK1.2 3 (c0, .object RX2) rfl).2
  obtain ⟨k2, d2, -, -, -, h2⟩ := (hK1.2 2 (cA 2, .object RX2) rfl).2
  have e : c0 = cA 2 := Option.some.inj (Eq.trans (Eq.symm h1) h2)
  subst e
  exact kk q H1 hP1 hD1 hS1
end L3
