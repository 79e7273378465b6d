/-! The start's rules: new rows of ints, of longs, of saved diaries, in classes known once. -/
section L3
variable {p : Program} {l : Launch} {e : Env} {R : Room} {s : State} {m : MethodId} {args : Array Value} {below : List Frame} {meth : Method} {c : Code} {H : Heap} {locs : List Loc} {cells slots : Nat} {Q : State → Prop}
variable {cc : ByteArray} {pc : Nat} {ls : Array Slot} {rest : List Value} {D : va_G} {A : Nat → Prop} {ws : va_W} {H0 : Heap} {cA : Nat → ClassId}
abbrev zi (cA : Nat → ClassId) (n : Nat) : va_E := .inl (cA 0, n, .inl (fun _ => 0))
theorem l3_newi (hexec : p.tables.exec = Jvm.exec) (hb : c.code = cc) (harr : (Cond.arrayClass .int).before args s = true) (hK : va_K D tb_cl (am_tys cA) s) (hP : va_P D tb_cl ws H) (hD : va_D A ws) (hS : va_S A H0 H locs) (hA : ∀ q, H0.size ≤ q → A q)
    {n : Int32} {N' c' s' : Nat} (hn : ¬ n < 0) (hN : n.toNatClampNeg = N') (hbytes : N' * 4 ≤ 536870912) (hc' : cells + 1 = c') (hs' : slots + N' = s') (hcells : c' ≤ R.cells) (hslots : s' ≤ R.slots) (hdg : decode cc pc = .ok (.newarray .int, 2))
    (kk : ∀ (q : Nat) (H1 : Heap), va_P D tb_cl (ws ++ [(q, zi cA N')]) H1 → va_D A (ws ++ [(q, zi cA N')]) → va_S A H0 H1 locs → W p l e R s m args below meth c H1 locs c' s' Q (F0 m (pc + 2) ls (.ref q :: rest))) : W p l e R s m args below meth c H locs cells slots Q (F0 m pc ls (.int n :: rest)) := by
  subst hc'; subst hs'
  refine va_newa (atype := .int) (ty := .int) (a0 := (N', .inl (fun _ => 0))) hexec hb harr rfl hK hP hD hS hA (fun cA => rfl) hn hN hbytes hcells hslots hdg (fun q c0 H1 hK1 hP1 hD1 hS1 => ?_)
  have e : c0 = cA 0 := Option.some.inj (Eq.trans (Eq.symm (hK1.2 3 (c0, .int) rfl).2) (hK1.2 0 (cA 0, .int) rfl).2)
  subst e
  exact kk q H1 hP1 hD1 hS1
theorem l3_newq (hexec : p.tables.exec = Jvm.exec) (hb : c.code = cc) {own : String} {index : Nat} (hown : s.vm.findClass own = some m.cls) (hclink : (Cond.classLink own index RX2).before args s = true) (hover : va_AO RX2 s) (hK : va_K D tb_cl (am_tys cA) s) (hP : va_P D tb_cl ws H) (hD : va_D A ws) (hS : va_S A H0 H locs) (hA : ∀ q, H0.size ≤ q → A q)
    {n : Int32} {N' c' s' : Nat} (hn : ¬ n < 0) (hN : n.toNatClampNeg = N') (hbytes : N' * 4 ≤ 536870912) (hc' : cells + 1 = c') (hs' : slots + N' = s') (hcells : c' ≤ R.cells) (hslots : s' ≤ R.slots) (hdg : decode cc pc = .ok (.anewarray index, 3))
    (kk : ∀ (q : Nat) (H1 : Heap), va_P D tb_cl (ws ++ [(q, .inl (cA 2, N', .inr (.inr (.inr (.inr (fun _ => none))))))]) H1 → va_D A (ws ++ [(q, .inl (cA 2, N', .inr (.inr (.inr (.inr (fun _ => none))))))]) → va_S A H0 H1 locs → W p l e R s m args below meth c H1 locs c' s' Q (F0 m (pc + 3) ls (.ref q :: rest))) : W p l e R s m args below meth c H locs cells slots Q (F0 m pc ls (.int n :: rest)) := by
  subst hc'; subst hs'
  refine va_newq hexec hb hown hclink hover hK hP hD hS hA hn hN hbytes hcells hslots hdg (fun q c0 H1 hK1 hP1 hD1 hS1 => ?_)
  obtain ⟨k1, d1, -, -, -, h1⟩ := (hK1.2 3 (c0, .object RX2) rfl).2
  obtain ⟨k2, d2, -, -, -, h2⟩ := (hK1.2 2 (cA 2, .object RX2) rfl).2
  have e : c0 = cA 2 := Option.some.inj (Eq.trans (Eq.symm h1) h2)
  subst e
  exact kk q H1 hP1 hD1 hS1
end L3
