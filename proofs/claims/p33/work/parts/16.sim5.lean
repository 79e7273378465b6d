theorem am_hh {y : Nat} {v : tb_T} (h : tb_m y = some v) (h2 : y ≠ 88) : (tb_cost y = 0 → am_al y tb_hhL = none) ∧ (tb_cost y ≠ 0 → tb_cost y = 1 ∧ ∃ hh, am_al y tb_hhL = some hh) := by
  have h1 := am_al_in h
  unfold tb_mL at h1
  rcases List.mem_append.mp h1 with h3 | h3
  · have h6 := List.all_eq_true.mp tf_mA _ h3
    dsimp only at h6
    cases hh : am_al y tb_hhL with
    | some z => rw [hh] at h6; cases h6
    | none =>
      refine ⟨fun _ => rfl, fun hc => ?_⟩
      unfold tb_cost at hc
      split at hc
      next l e =>
        have h4 := List.all_eq_true.mp tf_h _ (am_al_in e)
        dsimp only at h4
        rw [hh] at h4
        cases h4
      next => exact absurd rfl hc
  · rcases List.mem_append.mp h3 with h3 | h3
    · have h6 := List.all_eq_true.mp tf_mW _ h3
      dsimp only at h6
      cases hh : am_al y tb_hhL with
      | none => rw [hh] at h6; cases h6
      | some z =>
        rw [hh] at h6
        cases hn : am_al y tb_hnL with
        | none => rw [hn] at h6; cases h6
        | some w =>
          have hc : tb_cost y = 1 := by unfold tb_cost; rw [hn]
          exact ⟨fun q => by omega, fun _ => ⟨hc, z, rfl⟩⟩
    · rw [List.mem_singleton] at h3
      exact absurd (congrArg Prod.fst h3) h2
theorem am_callf {o k y nn : Nat} {b : Bool} (h : tb_call o k = some (y, nn, b)) : ∃ n c nL ret o' st np, tb_m y = some (n, c, nL, ret, o', st, np) ∧ (b = false → Cond.methodLink (tb_cn o) k n ∈ am_GL) ∧ (b = true → tb_nest = .methodLinkNest (tb_cn o) k n "OathDiary" ∧ st = true) ∧ nn = (match st with | true => np | false => np + 1) := by
  unfold tb_call at h
  split at h
  next y' n' b' pos e =>
    cases h
    have h1 := am_al2_all (f := tb_callok) e tf_call
    unfold tb_callok at h1
    dsimp only at h1
    split at h1
    next n c nL ret o' st np e2 =>
      simp only [Bool.and_eq_true] at h1
      obtain ⟨h3, h4⟩ := h1
      refine ⟨n, c, nL, ret, o', st, np, e2, fun q => ?_, fun q => ?_, Nat.eq_of_beq_eq_true h4⟩
      · subst q; exact tb_at_in h3
      · subst q
        simp only [Bool.and_eq_true, decide_eq_true_eq] at h3
        exact h3
    next => cases h1
  next => cases h
def tb_nestok (_ _ : Nat) (v : Nat × Nat × Bool × Nat) : Bool := !v.2.2.1 || Nat.beq v.1 24
theorem tf_nest : tb_callL.all (fun q => q.2.all (fun r => tb_nestok q.1 r.1 r.2)) = true := by decide +kernel
/-- only one call goes by a nest mate's link -/
theorem am_nest {o k y nn : Nat} (h : tb_call o k = some (y, nn, true)) : y = 24 := by
  unfold tb_call at h
  split at h
  next y' n' b' pos e =>
    cases h
    have h2 := am_al2_all (f := tb_nestok) e tf_nest
    exact Nat.eq_of_beq_eq_true (by simpa [tb_nestok] using h2)
  next => cases h
section AMD
variable {p : Program} {l : Launch} {e : Env} {R : Room} {s : State} {m : MethodId} {args : Array Value} {below : List Frame} {meth : Method} {c : Code} {cells slots : Nat} {Z : State → Prop} {cc : ByteArray} {ρ : Nat → Nat} {D : va_G} {cA : Nat → ClassId} {base o nL : Nat} {scr : Option (Int × (Int → Int))}
theorem am_stk (st : List am_V) (nn : Nat) : st.map (am_cv ρ) = (((st.take nn).reverse).map (am_cv ρ)).reverse ++ (st.drop nn).map (am_cv ρ) := by
  rw [List.map_reverse, List.reverse_reverse, ← List.map_append, List.take_append_drop]
set_option maxHeartbeats 4000000 in
theorem am_sCallN (F : am_fix p s m args c cc R cells slots ρ D cA base o nL scr) {ins : Instr} {len pc : Nat} {lv : am_L} {st : List am_V} {M : am_M} (hd : decode cc pc = .ok (ins, len)) (hlen : am_len ins = 0 ∨ len = am_len ins) {k y nn n : Nat} {b : Bool} (hiv : am_iv y k ins) (hcall : tb_call o k = some (y, nn, b)) (hst : (st.take nn).length = nn) (hrecv : am_recv y (st.take nn).reverse) (hcs : am_cs (st.drop nn) ≤ 8) (hy : y ≠ 88)
    (hrf : n + 1 ≤ R.frames) (hrl : 33 * n + 73 ≤ R.locals) (hroom : cells + tb_cost y ≤ R.cells ∧ slots + 6 * tb_cost y ≤ R.slots) {Q : am_Q} (hN : am_CN l ρ D cA base n y (st.take nn).reverse M Q)
    (kk : ∀ r M', Q r M' → am_at_ p l e R s m args below meth c (cells + tb_cost y) (slots + 6 * tb_cost y) Z ρ D cA base nL (pc + 3) lv (am_push r (st.drop nn)) M') : am_at_ p l e R s m args below meth c cells slots Z ρ D cA base nL pc lv st M := by
  obtain ⟨hx, hb, hml, hts, hown, hρ, hE, hRf, hRl, hRc, hRs, hnL, hscr⟩ := F
  intro H locs ls hP hS hl
  obtain ⟨yn, yc, yL, yr, yo, yst, ynp, hm, hlink, hnst, hnn⟩ := am_callf hcall
  have hN := hN _ hm
  obtain ⟨f1, f2, f3, f4, f5, f6, f7, f8, f9⟩ := am_mf hm hy
  have hws := am_wsg hm hy
  have hR : (am_rm n (tb_cost y)).frames + 1 ≤ R.frames ∧ 8 + (yL + 11) + (am_rm n (tb_cost y)).locals ≤ R.locals := by
    unfold am_rm
    exact ⟨by show n + 1 ≤ R.frames; omega, by show 8 + (yL + 11) + (33 * n + 40) ≤ R.locals; omega⟩
  have hPU : ∀ U : State, U.heap = H → s.WarmedH U.vm → am_env D cA base U U.heap ∧ va_P D tb_cl (am_ws ρ cA M) U.heap := fun U hU hW => ⟨am_env_moved hE hW (fun a h1 h2 => by rw [hU]; exact hS.2.1 a h1 h2), by rw [hU]; exact hP⟩
  cases yst with
  | true =>
    have ei : ins = .invokestatic k := by unfold am_iv at hiv; rw [hm] at hiv; exact hiv
    subst ei
    obtain rfl : len = 3 := hlen.resolve_left (fun q => by cases q)
    have hnn : nn = ynp := hnn
    have hp : PreS s H (am_Pc ρ D cA base (st.take nn).reverse M) (((st.take nn).reverse).map (am_cv ρ)) := ⟨am_blind, fun U hU hW => ⟨rfl, hPU U hU hW⟩⟩
    have hlA : (((st.take nn).reverse).map (am_cv ρ)).length = ynp := by rw [List.length_map, List.length_reverse, hst, hnn]
    have hW : 2 * (F0 m pc ls (st.map (am_cv ρ))).monitorRoom + (((st.drop nn).map (am_cv ρ)).map fun v => v.category).sum ≤ 8 := lv_room (by rw [am_cs_cv]; exact hcs)
    have hG : GoodIn am_GL (va_wsS (tb_cn o) k yn (tb_ws y (yn, yc, yL, yr, yo, true, ynp))) ∨ b = true := by
      cases b with
      | true => exact Or.inr rfl
      | false =>
        refine Or.inl (fun w hw => ?_)
        unfold va_wsS at hw
        rcases List.mem_append.mp hw with hw | hw
        · rcases List.mem_cons.mp hw with rfl | hw
          · exact am_good (hlink rfl)
          · rcases List.mem_cons.mp hw with rfl | hw
            · exact am_good (f1 rfl)
            · rw [List.mem_singleton] at hw; subst hw; exact am_good f3
        · exact hws w hw
    by_cases hc : tb_cost y = 0
    · have hhn := (am_hh hm hy).1 hc
      have hwe : tb_ws y (yn, yc, yL, yr, yo, true, ynp) = Cond.code yn yc yL yr :: am_GL := by unfold tb_ws; rw [hhn]
      rcases hG with hG | hG
      · exact am_cont rfl hS hl (va_runS (Ts := am_GL) ⟨hx, hb, hml, hown, hts⟩ hN (va_cwS ynp hts hG hwe rfl rfl ⟨f5.1, f5.2, f6⟩ hR) hp rfl hlA hl.1 (am_stk st nn) hW hd hroom) kk
      · subst hG
        obtain ⟨g1, -⟩ := hnst rfl
        obtain ⟨hK, hstr, hnest, hcast, hdecl, hnc, hU, hN'⟩ := hE
        rw [g1] at hnest
        exact am_cont rfl hS hl (va_runSN (Ts := am_GL) ⟨hx, hb, hml, hown, hts⟩ hN ⟨va_cnB ynp hts hws hwe rfl rfl hnest (hts _ f3) ⟨f5.1, f5.2, f6⟩ hR, hts _ (f1 rfl), trivial⟩ hp rfl hlA hl.1 (am_stk st nn) hW hd hroom) kk
    · obtain ⟨hc1, hh, hhe⟩ := (am_hh hm hy).2 hc
      have hwe : tb_ws y (yn, yc, yL, yr, yo, true, ynp) = Cond.codeWith yn yc yL yr hh :: am_GL := by unfold tb_ws; rw [hhe]
      rcases hG with hG | hG
      · exact am_cont rfl hS hl (vx_runSW (Ts := am_GL) ⟨hx, hb, hml, hown, hts⟩ hN (vx_cwSW ynp hts hG hwe rfl rfl ⟨f5.1, f5.2, f6⟩ hR) hp rfl hlA hl.1 (am_stk st nn) hW hd hroom) kk
      · subst hG
        have := am_nest hcall
        subst this
        exact absurd (by decide +kernel : tb_cost 24 = 0) hc
  | false =>
    have ei : ins = .invokevirtual k := by unfold am_iv at hiv; rw [hm] at hiv; exact hiv
    subst ei
    obtain rfl : len = 3 := hlen.resolve_left (fun q => by cases q)
    have hnn : nn = ynp + 1 := hnn
    have hbf : b = false := by cases b with | false => rfl | true => exact absurd (hnst rfl).2 (by decide)
    have hc : tb_cost y = 0 := by
      by_cases hc : tb_cost y = 0
      · exact hc
      · exact absurd (f9 hc) (by decide)
    have hhn := (am_hh hm hy).1 hc
    have hwe : tb_ws y (yn, yc, yL, yr, yo, false, ynp) = Cond.code yn yc yL yr :: am_GL := by unfold tb_ws; rw [hhn]
    obtain ⟨i1, i2, q, i3, i4⟩ := f2 rfl
    obtain ⟨a, as', hta, fk, hlay⟩ : ∃ a as', (st.take nn).reverse = .inr (.inl (some a)) :: as' ∧ ∃ fk, tb_lay[a]? = some (.inr (.inr (yo, fk))) := by
      unfold am_recv at hrecv
      rw [hm] at hrecv
      cases hz : (st.take nn).reverse with
      | nil => rw [hz] at hrecv; exact hrecv.elim
      | cons z zs =>
        rw [hz] at hrecv
        rcases z with x | (_ | a) | x
        · exact hrecv.elim
        · exact hrecv.elim
        · exact ⟨a, zs, rfl, hrecv⟩
        · exact hrecv.elim
    have hstk : st.map (am_cv ρ) = (as'.map (am_cv ρ)).reverse ++ .ref (ρ a) :: (st.drop nn).map (am_cv ρ) := by
      rw [am_stk st nn, hta, List.map_cons, List.reverse_cons, List.append_assoc]
      rfl
    have hlA : (as'.map (am_cv ρ)).length = ynp := by
      have h1 := congrArg List.length hta
      rw [List.length_reverse, hst, List.length_cons] at h1
      rw [List.length_map]
      omega
    have hW : 2 * (F0 m pc ls (st.map (am_cv ρ))).monitorRoom + (((st.drop nn).map (am_cv ρ)).map fun v => v.category).sum ≤ 8 := lv_room (by rw [am_cs_cv]; exact hcs)
    have hG : GoodIn am_GL (wsV (tb_cn o) k yn.cls yn (tb_ws y (yn, yc, yL, yr, yo, false, ynp))) := fun w hw => by
      unfold wsV at hw
      rcases List.mem_append.mp hw with hw | hw
      · rcases List.mem_cons.mp hw with rfl | hw
        · exact am_good (hlink hbf)
        · rcases List.mem_cons.mp hw with rfl | hw
          · exact am_good i1
          · rcases List.mem_cons.mp hw with rfl | hw
            · exact am_good i2
            · rw [List.mem_singleton] at hw; subst hw; exact am_good f3
      · exact hws w hw
    have hcell := va_recv hE.1 hP i3 (am_ws_at hlay)
    rw [i4] at hcell
    have hp : PreV s H yn.cls (ρ a) (am_Pc ρ D cA base (st.take nn).reverse M) (as'.map (am_cv ρ)) := ⟨am_blind, hcell, fun U hU hW => ⟨by rw [hta]; rfl, hPU U hU hW⟩⟩
    exact am_cont rfl hS hl (va_runV (Ts := am_GL) (C := yn.cls) ⟨hx, hb, hml, hown, hts⟩ hN (cwV ynp hts hG hwe rfl rfl ⟨rfl, f5.1, f5.2, f6⟩ hR) hp rfl hlA hl.1 hstk hW hd hroom) kk
set_option maxHeartbeats 4000000 in
theorem am_sCallX (F : am_fix p s m args c cc R cells slots ρ D cA base o nL scr) {ins : Instr} {len pc : Nat} {lv : am_L} {st : List am_V} {M : am_M} (hd : decode cc pc = .ok (ins, len)) (hlen : am_len ins = 0 ∨ len = am_len ins) {k y nn n : Nat} {b : Bool} (hiv : am_iv y k ins) (hcall : tb_call o k = some (y, nn, b)) (hst : (st.take nn).length = nn) (hrecv : am_recv y (st.take nn).reverse) (hcs : am_cs (st.drop nn) ≤ 8) (hy : y ≠ 88) (hyt : tb_thw y)
    (hrf : n + 1 ≤ R.frames) (hrl : 33 * n + 73 ≤ R.locals) (hroom : cells + 1 ≤ R.cells ∧ slots + 6 ≤ R.slots) {QX : am_X} (hN : am_CX l ρ D cA base n y (st.take nn).reverse M QX)
    (kx : ∀ (E : Nat) (M' : am_M) (H1 : Heap) (locs1 : List Loc) (ls : Array Slot) (ce : Cell) (q9 : Addr), E < 3 → QX E M' → va_P D tb_cl (am_ws ρ cA M') H1 → va_S (fun q : Nat => base ≤ q) s.heap H1 locs1 → lv_has ls nL (am_cl ρ lv) → H1[q9]? = some ce → ce.vm = .none → s.vm.findClass (tb_ex E) = some ce.cls → vx_W p l e R s m args below meth c H1 locs1 (cells + 1) (slots + 6) Z (F0 m pc ls ((st.drop nn).map (am_cv ρ))) q9) : am_at_ p l e R s m args below meth c cells slots Z ρ D cA base nL pc lv st M := by
  obtain ⟨hx, hb, hml, hts, hown, hρ, hE, hRf, hRl, hRc, hRs, hnL, hscr⟩ := F
  intro H locs ls hP hS hl
  have kx := fun E M' H1 locs1 ce q9 h1 h2 h3 h4 => kx E M' H1 locs1 ls ce q9 h1 h2 h3 h4 hl
  obtain ⟨yn, yc, yL, yr, yo, yst, ynp, hm, hlink, hnst, hnn⟩ := am_callf hcall
  have hN := hN _ hm
  obtain ⟨f1, f2, f3, f4, f5, f6, f7, f8, f9⟩ := am_mf hm hy
  have hws := am_wsg hm hy
  have hR : (am_rm n 1).frames + 1 ≤ R.frames ∧ 8 + (yL + 11) + (am_rm n 1).locals ≤ R.locals := by
    unfold am_rm
    exact ⟨by show n + 1 ≤ R.frames; omega, by show 8 + (yL + 11) + (33 * n + 40) ≤ R.locals; omega⟩
  have hPU : ∀ U : State, U.heap = H → s.WarmedH U.vm → am_env D cA base U U.heap ∧ va_P D tb_cl (am_ws ρ cA M) U.heap := fun U hU hW => ⟨am_env_moved hE hW (fun a h1 h2 => by rw [hU]; exact hS.2.1 a h1 h2), by rw [hU]; exact hP⟩
  have hhn := (am_hh hm hy).1 hyt.1
  have hbf : b = false := by
    cases b with
    | false => rfl
    | true => exact absurd (am_nest hcall) hyt.2
  cases yst with
  | true =>
    have hwe : tb_ws y (yn, yc, yL, yr, yo, true, ynp) = Cond.code yn yc yL yr :: am_GL := by unfold tb_ws; rw [hhn]
    have ei : ins = .invokestatic k := by unfold am_iv at hiv; rw [hm] at hiv; exact hiv
    subst ei
    obtain rfl : len = 3 := hlen.resolve_left (fun q => by cases q)
    have hnn : nn = ynp := hnn
    have hp : PreS s H (am_Pc ρ D cA base (st.take nn).reverse M) (((st.take nn).reverse).map (am_cv ρ)) := ⟨am_blind, fun U hU hW => ⟨rfl, hPU U hU hW⟩⟩
    have hlA : (((st.take nn).reverse).map (am_cv ρ)).length = ynp := by rw [List.length_map, List.length_reverse, hst, hnn]
    have hW : 2 * (F0 m pc ls (st.map (am_cv ρ))).monitorRoom + (((st.drop nn).map (am_cv ρ)).map fun v => v.category).sum ≤ 8 := lv_room (by rw [am_cs_cv]; exact hcs)
    have hG : GoodIn am_GL (va_wsS (tb_cn o) k yn (tb_ws y (yn, yc, yL, yr, yo, true, ynp))) := fun w hw => by
      unfold va_wsS at hw
      rcases List.mem_append.mp hw with hw | hw
      · rcases List.mem_cons.mp hw with rfl | hw
        · exact am_good (hlink hbf)
        · rcases List.mem_cons.mp hw with rfl | hw
          · exact am_good (f1 rfl)
          · rw [List.mem_singleton] at hw; subst hw; exact am_good f3
      · exact hws w hw
    exact am_contX hS (vx_runS (Ts := am_GL) ⟨hx, hb, hml, hown, hts⟩ hN (va_cwS ynp hts hG hwe rfl rfl ⟨f5.1, f5.2, f6⟩ hR) hp rfl hlA hl.1 (am_stk st nn) hW hd hroom) kx
  | false =>
    have hwe : tb_ws y (yn, yc, yL, yr, yo, false, ynp) = Cond.code yn yc yL yr :: am_GL := by unfold tb_ws; rw [hhn]
    have ei : ins = .invokevirtual k := by unfold am_iv at hiv; rw [hm] at hiv; exact hiv
    subst ei
    obtain rfl : len = 3 := hlen.resolve_left (fun q => by cases q)
    have hnn : nn = ynp + 1 := hnn
    obtain ⟨i1, i2, q, i3, i4⟩ := f2 rfl
    obtain ⟨a, as', hta, fk, hlay⟩ : ∃ a as', (st.take nn).reverse = .inr (.inl (some a)) :: as' ∧ ∃ fk, tb_lay[a]? = some (.inr (.inr (yo, fk))) := by
      unfold am_recv at hrecv
      rw [hm] at hrecv
      cases hz : (st.take nn).reverse with
      | nil => rw [hz] at hrecv; exact hrecv.elim
      | cons z zs =>
        rw [hz] at hrecv
        rcases z with x | (_ | a) | x
        · exact hrecv.elim
        · exact hrecv.elim
        · exact ⟨a, zs, rfl, hrecv⟩
        · exact hrecv.elim
    have hstk : st.map (am_cv ρ) = (as'.map (am_cv ρ)).reverse ++ .ref (ρ a) :: (st.drop nn).map (am_cv ρ) := by
      rw [am_stk st nn, hta, List.map_cons, List.reverse_cons, List.append_assoc]
      rfl
    have hlA : (as'.map (am_cv ρ)).length = ynp := by
      have h1 := congrArg List.length hta
      rw [List.length_reverse, hst, List.length_cons] at h1
      rw [List.length_map]
      omega
    have hW : 2 * (F0 m pc ls (st.map (am_cv ρ))).monitorRoom + (((st.drop nn).map (am_cv ρ)).map fun v => v.category).sum ≤ 8 := lv_room (by rw [am_cs_cv]; exact hcs)
    have hG : GoodIn am_GL (wsV (tb_cn o) k yn.cls yn (tb_ws y (yn, yc, yL, yr, yo, false, ynp))) := fun w hw => by
      unfold wsV at hw
      rcases List.mem_append.mp hw with hw | hw
      · rcases List.mem_cons.mp hw with rfl | hw
        · exact am_good (hlink hbf)
        · rcases List.mem_cons.mp hw with rfl | hw
          · exact am_good i1
          · rcases List.mem_cons.mp hw with rfl | hw
            · exact am_good i2
            · rw [List.mem_singleton] at hw; subst hw; exact am_good f3
      · exact hws w hw
    have hcell := va_recv hE.1 hP i3 (am_ws_at hlay)
    rw [i4] at hcell
    have hp : PreV s H yn.cls (ρ a) (am_Pc ρ D cA base (st.take nn).reverse M) (as'.map (am_cv ρ)) := ⟨am_blind, hcell, fun U hU hW => ⟨by rw [hta]; rfl, hPU U hU hW⟩⟩
    exact am_contX hS (vx_runV (Ts := am_GL) (C := yn.cls) ⟨hx, hb, hml, hown, hts⟩ hN (cwV ynp hts hG hwe rfl rfl ⟨rfl, f5.1, f5.2, f6⟩ hR) hp rfl hlA hl.1 hstk hW hd hroom) kx
end AMD
