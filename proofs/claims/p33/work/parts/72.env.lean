/-! The world at the law's entry. -/
def strok (o k : Nat) (tx : String) : Bool := decide (Cond.stringRef (tb_cn o) k tx ∈ lw_tbl) && decide (Cond.exactly (.string (tb_cn o) k) "java/lang/String" ∈ flatC (Jvm.Cond.and given_1 narrow_1))
theorem tf_strok : tb_strL.all (fun q => q.2.all (fun r => strok q.1 r.1 r.2)) = true := by decide +kernel
theorem tf_castin : ∀ q ∈ tb_cast, Cond.castable q.1 q.2 ∈ lw_tbl := by decide +kernel
theorem tf_lays : Cond.laysStatic Bundle.tN "UNASSIGNED_STACK" Bundle.steD ∈ lw_tbl ∧ Cond.laysStatic Bundle.tN "SUPPRESSED_SENTINEL" Bundle.listD ∈ lw_tbl ∧ Cond.initialized Bundle.tN ∈ lw_tbl := by decide +kernel
theorem tf_isref : Cond.isRef (.static Bundle.tN "UNASSIGNED_STACK" Bundle.steD) ∈ flatC (Jvm.Cond.and given_1 narrow_1) ∧ Cond.isRef (.static Bundle.tN "SUPPRESSED_SENTINEL" Bundle.listD) ∈ flatC (Jvm.Cond.and given_1 narrow_1) := by decide +kernel
theorem tf_nestin : tb_nest ∈ lw_tbl := List.mem_of_getElem? (i := 383) (by decide +kernel)
set_option maxHeartbeats 4000000 in
set_option maxRecDepth 100000 in
theorem env_0 {s : State} {b : Addr} (hts : ∀ w ∈ lw_tbl, w.before #[Value.ref b] s = true) (hgv : (Jvm.Cond.and given_1 narrow_1).before #[Value.ref b] s = true) : ∃ (D : va_G) (cA : Nat → ClassId), am_env D cA s.heap.size s s.heap := by
  have hs := flat_of_before _ hgv
  have h5 : ∀ w ∈ wsX5_init, w.before #[Value.ref b] s = true := fun w h => hts w (gT_X5_init w h).1
  obtain ⟨c0, i0, k0⟩ := u_known (C := RX0) (T := TX0) (N := 3) (n := 3) h5 i3X5_X0 (h5 (.instantiable RX0 3) (by decide +kernel))
  obtain ⟨c1, i1, k1⟩ := u_known (C := RX1) (T := TX1) (N := 3) (n := 3) h5 i3X5_X1 (h5 (.instantiable RX1 3) (by decide +kernel))
  obtain ⟨c2, i2, k2⟩ := u_known (C := RX2) (T := TX2) (N := 11) (n := 11) h5 i3X5_X2 (h5 (.instantiable RX2 11) (by decide +kernel))
  obtain ⟨c3, i3, k3⟩ := u_known (C := RX3) (T := TX3) (N := 5) (n := 5) h5 i3X5_X3 (h5 (.instantiable RX3 5) (by decide +kernel))
  obtain ⟨c4, i4, k4⟩ := u_known (C := RX4) (T := TX4) (N := 6) (n := 6) h5 i3X5_X4 (h5 (.instantiable RX4 6) (by decide +kernel))
  obtain ⟨c5, i5, k5⟩ := u_known (C := RX5) (T := TX5) (N := 6) (n := 6) h5 i3X5_X5 (hts _ wT_1)
  obtain ⟨dC, dI, hKc⟩ : ∃ (dC : Nat → ClassId) (dI : Nat → Nat → Nat), ∀ (k : Nat) (q : vw_C), tb_cl[k]? = some q → u_Kn s q.1 q.2.1 q.2.2 (dC k) (dI k) := by
    refine ⟨fun k => match k with | 0 => c0 | 1 => c1 | 2 => c2 | 3 => c3 | 4 => c4 | _ => c5, fun k => match k with | 0 => i0 | 1 => i1 | 2 => i2 | 3 => i3 | 4 => i4 | _ => i5, ?_⟩
    intro k q hq
    match k, hq with
    | 0, hq => cases hq; exact k0
    | 1, hq => cases hq; exact k1
    | 2, hq => cases hq; exact k2
    | 3, hq => cases hq; exact k3
    | 4, hq => cases hq; exact k4
    | 5, hq => cases hq; exact k5
    | k + 6, hq => cases hq
  obtain ⟨ci, ki, di, a1, a2, a3⟩ := Cond.arrayClass_spec (h5 (.arrayClass .int) (by decide +kernel))
  obtain ⟨cl, kl, dl, b1, b2, b3⟩ := Cond.arrayClass_spec (hts (.arrayClass .byte) wT_6)
  obtain ⟨dq, cq, kq, d1, d2, d3, d4, d5⟩ := Cond.arrayOver_spec (hts (.arrayOver (.object RX2)) wT_over)
  have hK : va_K (dC, dI) tb_cl (am_tys (fun k => match k with | 0 => ci | 1 => cl | _ => cq)) s := by
    refine ⟨hKc, fun k q hq => ?_⟩
    match k, hq with
    | 0, hq => cases hq; exact ⟨fun N z => ⟨(fun q hq => by cases hq), ki, a2, di, a3⟩, a1⟩
    | 1, hq => cases hq; exact ⟨fun N z => ⟨(fun q hq => by cases hq), kl, b2, dl, b3⟩, b1⟩
    | 2, hq => cases hq; exact ⟨fun N z => ⟨(fun q hq => by cases hq), kq, d3, dq, d4⟩, kq, dq, d3, d4, d1, d5⟩
    | k + 3, hq => cases hq
  have hA : ∀ a : Nat, a < s.heap.size → ¬ (fun q : Nat => s.heap.size ≤ q) a := fun a h q => absurd h (Nat.not_lt.mpr q)
  refine ⟨(dC, dI), _, hK, fun o k tx e => ?_, va_Nw.of rfl (hts _ tf_nestin), fun q hq => va_Nw.of rfl (hts _ (tf_castin q hq)), fun x hx => ?_, trivial, vx_Zqof (hts _ tf_lays.1) (hts _ tf_lays.2.2) (hs _ tf_isref.1) hA, vx_Zqof (hts _ tf_lays.2.1) (hts _ tf_lays.2.2) (hs _ tf_isref.2) hA⟩
  · have h2 := am_al2_all (f := strok) e tf_strok
    unfold strok at h2
    rw [Bool.and_eq_true] at h2
    obtain ⟨a, -, -, -, q1, -⟩ := Cond.exactly_spec (args := #[Value.ref b]) (first := s) (o := none) (s := s) (idx := []) (t := .string (tb_cn o) k) (cls := "java/lang/String") (hs _ (of_decide_eq_true h2.2))
    exact ⟨a, vk_R.of (hts _ (of_decide_eq_true h2.1)) q1⟩
  · unfold tb_decl at hx
    obtain ⟨w, hw, he⟩ := List.mem_filterMap.mp hx
    split at he
    next y => cases he; exact va_Nw.of rfl (hts _ hw)
    next => cases he
