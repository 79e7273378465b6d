theorem tf_h2 : (tb_hnL.all fun q => match tb_m q.1 with
  | some v => q.2.all (fun r => Nat.blt r.2.2.2.2.1 v.2.2.1)
  | none => false) = true := by decide +kernel
theorem am_sl_len (ρ : Nat → Nat) : ∀ as : List am_V, (lg_sl (as.map (am_cv ρ))).length = am_cs as
  | [] => rfl
  | v :: r => by
    have ih := am_sl_len ρ r
    unfold lg_sl at ih ⊢
    rw [List.map_cons, List.flatMap_cons, List.length_append, ih]
    show (if (am_cv ρ v).category = 2 then [Slot.val (am_cv ρ v), Slot.second] else [Slot.val (am_cv ρ v)]).length + am_cs r = am_cat v + am_cs r
    rw [am_cat_cv]
    rcases v with x | x | x <;> rfl
theorem am_hfind_in {pc E i np : Nat} : ∀ (l : List (Nat × Nat × Nat × Nat × Nat × Nat)), am_hfind pc E l = some (i, np) → ∃ s e h, (s, e, E, h, i, np) ∈ l
  | [], h => by cases h
  | (s, e, E', h', i', np') :: r, h => by
    unfold am_hfind at h
    split at h
    next e1 e2 e3 =>
      cases h
      have e4 : E = E' := Nat.eq_of_beq_eq_true e3
      subst e4
      exact ⟨s, e, h', List.mem_cons_self⟩
    next =>
      obtain ⟨s', e', h'', hm⟩ := am_hfind_in r h
      exact ⟨s', e', h'', List.mem_cons_of_mem _ hm⟩
section AMG
variable {p : Program} {l : Launch} {e : Env} {R : Room} {s : State} {m : MethodId} {args : Array Value} {below : List Frame} {meth : Method} {c : Code} {cells slots : Nat} {Z : State → Prop} {cc : ByteArray} {ρ : Nat → Nat} {D : va_G} {cA : Nat → ClassId} {base o nL : Nat} {scr : Option (Int × (Int → Int))}
theorem am_hsplit {y : Nat} {pc E i np : Nat} (hE3 : E < 3) (hts : ∀ w ∈ am_GL, w.before args s = true) (hnc : ∀ a b, a < 3 → b < 3 → a ≠ b → va_Nc (tb_ex a) (tb_ex b) s) :
    ∀ (hh : List (Nat × Nat × Nat × Nat)) (hl : List (Nat × Nat × Nat × Nat × Nat × Nat)), tb_hz y o hh hl = true → am_hfind pc E hl = some (i, np) →
      ∃ pre x suf, tableOf hh = pre ++ x :: suf ∧ (∀ z ∈ pre, covers z pc = false ∨ (z.catchType ≠ 0 ∧ ∃ nm : String, (Cond.classLink (tb_cn o) z.catchType nm).before args s = true ∧ va_Nc (tb_ex E) nm s)) ∧ covers x pc = true ∧ x.catchType ≠ 0 ∧ (Cond.classLink (tb_cn o) x.catchType (tb_ex E)).before args s = true ∧
        ∃ ins len, tb_code y x.handlerPc = some (ins, len) ∧ (ins = .astore i ∨ ∃ k : Fin 4, ins = .astore_n k ∧ k.val = i) ∧ np = x.handlerPc + len
  | [], [], _, h => by cases h
  | [], _ :: _, h, _ => by cases h
  | _ :: _, [], h, _ => by cases h
  | (s1, e1, h1, ct) :: r, (s2, e2, E2, h2, i2, np2) :: r2, hz, hf => by
    unfold tb_hz at hz
    simp only [Bool.and_eq_true, decide_eq_true_eq, Bool.not_eq_true'] at hz
    obtain ⟨⟨⟨⟨⟨⟨⟨z1, z2⟩, z3⟩, z4⟩, z5⟩, z6⟩, z7⟩, z8⟩ := hz
    have q1 : s1 = s2 := Nat.eq_of_beq_eq_true z1
    have q2 : e1 = e2 := Nat.eq_of_beq_eq_true z2
    have q3 : h1 = h2 := Nat.eq_of_beq_eq_true z3
    subst q1; subst q2; subst q3
    have hct : ct ≠ 0 := fun q => by subst q; cases z6
    have hE2 : E2 < 3 := Nat.ble_eq.mp z5
    unfold am_hfind at hf
    split at hf
    next g1 g2 g3 =>
      cases hf
      have g4 : E = E2 := Nat.eq_of_beq_eq_true g3
      subst g4
      refine ⟨[], ⟨s1, e1, h1, ct⟩, tableOf r, rfl, fun z hz => (List.not_mem_nil hz).elim, ?_, hct, hts _ z4, ?_⟩
      · show (decide (s1 ≤ pc) && decide (pc < e1)) = true
        rw [Bool.and_eq_true, decide_eq_true_eq, decide_eq_true_eq]
        exact ⟨Nat.ble_eq.mp g1, Nat.ble_eq.mp g2⟩
      · show ∃ ins len, tb_code y h1 = some (ins, len) ∧ _ ∧ np = h1 + len
        split at z7
        next k len e3 =>
          rw [Bool.and_eq_true] at z7
          have e4 : k = i := Nat.eq_of_beq_eq_true z7.1
          subst e4
          exact ⟨_, len, e3, Or.inl rfl, Nat.eq_of_beq_eq_true z7.2⟩
        next k len e3 =>
          rw [Bool.and_eq_true] at z7
          exact ⟨_, len, e3, Or.inr ⟨k, rfl, Nat.eq_of_beq_eq_true z7.1⟩, Nat.eq_of_beq_eq_true z7.2⟩
        next => cases z7
    next hno =>
      obtain ⟨pre, x, suf, k1, k2, k3, k4, k5, k6⟩ := am_hsplit hE3 hts hnc r r2 z8 hf
      refine ⟨⟨s1, e1, h1, ct⟩ :: pre, x, suf, by unfold tableOf at k1 ⊢; rw [List.map_cons, k1]; rfl, fun z hz => ?_, k3, k4, k5, k6⟩
      rcases List.mem_cons.mp hz with rfl | hz
      · by_cases hcv : covers ⟨s1, e1, h1, ct⟩ pc = true
        · refine Or.inr ⟨hct, tb_ex E2, hts _ z4, hnc E E2 hE3 hE2 (fun q => ?_)⟩
          subst q
          change (decide (s1 ≤ pc) && decide (pc < e1)) = true at hcv
          rw [Bool.and_eq_true, decide_eq_true_eq, decide_eq_true_eq] at hcv
          exact hno (Nat.ble_eq.mpr hcv.1) (Nat.ble_eq.mpr hcv.2) (Nat.beq_refl E)
        · exact Or.inl (by simpa using hcv)
      · exact k2 z hz
theorem am_ret {d : am_D} {Q : am_Q} {r : Option am_V} {M : am_M} {H : Heap} {locs : List Loc} {ls : Array Slot} {pc len : Nat} {ins : Instr} {mc ms : Nat} (hx : p.tables.exec = Jvm.exec) (hb : c.code = cc) (hr : meth.sig.returnType = d.2.2.2.1) (hlocks : meth.locks = false) (hd : decode cc pc = .ok (ins, len)) (hlen : am_len ins = 0 ∨ len = am_len ins)
    (hrk : am_rk ins d.2.2.2.1 r) (hq : Q r M) (hP : va_P D tb_cl (am_ws ρ cA M) H) (hS : va_S (fun q : Nat => base ≤ q) s.heap H locs) (hc : cells ≤ mc) (hs : slots ≤ ms) :
    W p l e R s m args below meth c H locs cells slots (MQ below (am_Qc ρ D cA base Q) args s mc ms (am_free base)) (F0 m pc ls ((am_push r []).map (am_cv ρ))) := by
  refine W.widen hc hs ?_
  have fin : ∀ (t : State), t.heap = H → s.WarmedH t.vm → am_Qc ρ D cA base Q args s (.returned (r.map (am_cv ρ))) t := fun t ht _ => ⟨⟨r, M, rfl, hq, by rw [ht]; exact hP⟩, hS.F ht⟩
  rcases hrk with ⟨rfl, x, rfl, h1⟩ | ⟨rfl, x, rfl, h1⟩ | ⟨rfl, x, rfl, h1⟩ | ⟨rfl, x, rfl, C, h1⟩ | ⟨rfl, rfl, h1⟩
  · obtain rfl : len = 1 := hlen.resolve_left (fun q => by cases q)
    rcases h1 with h1 | ⟨h1, h2⟩
    · exact W.zret hx hb (hr.trans h1) rfl fin hS.2.2 hd hlocks
    · exact W.zret hx hb (hr.trans h1) (by rcases h2 with rfl | rfl <;> rfl) fin hS.2.2 hd hlocks
  · obtain rfl : len = 1 := hlen.resolve_left (fun q => by cases q)
    exact W.lret hx hb (hr.trans h1) fin hS.2.2 hd hlocks
  · obtain rfl : len = 1 := hlen.resolve_left (fun q => by cases q)
    exact W.dret hx hb (hr.trans h1) fin hS.2.2 hd hlocks
  · obtain rfl : len = 1 := hlen.resolve_left (fun q => by cases q)
    refine W.aret hx hb (hr.trans h1) (Or.inl ⟨C, rfl⟩) ?_ fin hS.2.2 hd hlocks
    cases x with
    | none => exact Or.inl rfl
    | some x => exact Or.inr ⟨_, rfl⟩
  · obtain rfl : len = 1 := hlen.resolve_left (fun q => by cases q)
    exact W.vret hx hb (hr.trans h1) fin hS.2.2 hd hlocks
end AMG
section AMH
variable {l : Launch} {ρ : Nat → Nat} {D : va_G} {cA : Nat → ClassId} {base : Nat}
theorem am_thf {o ik ic E : Nat} (h1 : tb_thr o ik = some E) (h2 : tb_thc o ic = some E) {args : Array Value} {s : State} (hts : ∀ w ∈ am_GL, w.before args s = true) (hcast : ∀ q ∈ tb_cast, va_Nw (.castable q.1 q.2) s) (hdecl : ∀ x ∈ tb_decl, va_Nw (.declares x) s) :
    E < 3 ∧ (Cond.classLink (tb_cn o) ik (tb_ex E)).before args s = true ∧ (Cond.initialized (tb_ex E)).before args s = true ∧ Bundle.fit (tb_ex E) = true ∧ (∀ w ∈ vx_atS (tb_cn o) ic (tb_ex E) tb_exn, w.before args s = true) ∧ ∀ w ∈ Cond.classLink (tb_cn o) ik (tb_ex E) :: Cond.initialized (tb_ex E) :: vx_atS (tb_cn o) ic (tb_ex E) tb_exn, vx_ot w = true := by
  unfold tb_thr at h1
  split at h1
  next v pos e =>
    cases h1
    have h3 := am_al2_all (f := tb_throk) e tf_thr
    unfold tb_throk at h3
    simp only [Bool.and_eq_true] at h3
    have h4 := tb_at_in h3.1
    have hE : E < 3 := Nat.ble_eq.mp h3.2
    unfold tb_thc at h2
    have h5 := am_al2_all (f := tb_thok) h2 tf_thc
    unfold tb_thok at h5
    rw [Bool.and_eq_true] at h5
    have h6 := List.all_eq_true.mp h5.2
    have h7 := List.all_eq_true.mp tf_exi E (by
      rcases (show E = 0 ∨ E = 1 ∨ E = 2 by omega) with rfl | rfl | rfl <;> simp)
    rw [Bool.and_eq_true, decide_eq_true_eq] at h7
    have good : ∀ {w : Cond}, w ∈ am_GL → vx_ot w = true := fun hw => by
      unfold vx_ot
      rw [(List.mem_filter.mp hw).2, Bool.or_true]
    refine ⟨hE, hts _ h4, hts _ h7.1, h7.2, fun w hw => ?_, fun w hw => ?_⟩
    · have h8 := h6 w hw
      rw [Bool.and_eq_true] at h8
      obtain ⟨-, h8⟩ := h8
      split at h8
      next => exact hts _ (of_decide_eq_true h8)
      next a b _ => exact va_Nw.use rfl (hcast _ (of_decide_eq_true h8))
      next x _ => exact va_Nw.use rfl (hdecl _ (of_decide_eq_true h8))
      next => cases h8
    · rcases List.mem_cons.mp hw with rfl | hw
      · exact good h4
      · rcases List.mem_cons.mp hw with rfl | hw
        · exact good h7.1
        · have h8 := h6 w hw
          rw [Bool.and_eq_true] at h8
          exact h8.1
  next => cases h1
set_option maxHeartbeats 4000000 in
/-- what the small machine's calls say holds of the machine -/
theorem am_sound (hρ : am_ρ ρ base) (htr : l.stackTraces = false) : ∀ n : Nat,
    (∀ y as M Q, y ≠ 88 → am_CC n y as M Q (fun _ _ => False) → am_CN l ρ D cA base n y as M Q) ∧
    (∀ y as M QX, y ≠ 88 → tb_thw y → am_CC n y as M (fun _ _ => False) QX → am_CX l ρ D cA base n y as M QX) := by
  intro n
  induction n with
  | zero => exact ⟨fun _ _ _ _ _ h => h.elim, fun _ _ _ _ _ _ h => h.elim⟩
  | succ n ih =>
    obtain ⟨ihN, ihX⟩ := ih
    refine ⟨fun y as M Q hy h v hv => ?_, fun y as M QX hy hyt h v hv => ?_⟩
    · obtain ⟨yn, yc, yL, yr, yo, yst, ynp⟩ := v
      obtain ⟨hcs, hw⟩ := h
      have hdat : am_dat y = (tb_code y, yo, yL, yr, tb_hn y) := by unfold am_dat; rw [hv]
      rw [hdat] at hcs hw
      obtain ⟨f1, f2, f3, f4, f5, f6, f7, f8, f9⟩ := am_mf hv hy
      obtain ⟨hh0, hh1⟩ := am_hh hv hy
      refine MetFree.of_bodySF (code := yc) (maxLocals := yL) (ret := yr) f7 ?_ ?_
      · intro args s m h hn
        have hw0 := atoms_spec (ws := tb_ws y (yn, yc, yL, yr, yo, yst, ynp)) h _ (by unfold tb_ws; exact List.mem_cons_self)
        cases hhy : am_al y tb_hhL with
        | none =>
          rw [hhy] at hw0
          obtain ⟨meth, c, h1, h2, h3, h4, h5, h6, -, -⟩ := Cond.code_spec hn hw0
          exact ⟨meth, c, h1, h2, h3, h4, h5, h6⟩
        | some hh =>
          rw [hhy] at hw0
          obtain ⟨m9, meth, c, hn9, h1, h2, h3, h4, -, h5, h6, -⟩ := Cond.codeWith_spec hw0
          cases hn.symm.trans hn9
          exact ⟨meth, c, h1, h2, h3, h4, h5, h6⟩
      · intro p e s m args below meth c s₁ B hml hP _
        obtain ⟨rfl, hE, hP0⟩ := hP
        have hh00 : s₁.heap = s.heap := by rw [B.state]; rfl
        have hts0 := atoms_spec (ws := tb_ws y (yn, yc, yL, yr, yo, yst, ynp)) B.pre
        have hts : ∀ w ∈ am_GL, w.before ((as.map (am_cv ρ)).toArray) s = true := fun w hw => hts0 w (by unfold tb_ws; exact List.mem_cons_of_mem _ hw)
        have hown : s.vm.findClass (tb_cn yo) = some m.cls := by rw [← f4]; exact findClass_of_methodNamed B.named
        have hcode : ∀ pc ins len, tb_code y pc = some (ins, len) → decode yc pc = .ok (ins, len) ∧ (am_len ins = 0 ∨ len = am_len ins) := fun pc ins len q => tl_dec hv q
        have hnL : yL ≤ 14 := f8
        have F : ∀ b, b ≤ tb_cost y → am_fix p s m ((as.map (am_cv ρ)).toArray) c yc (am_rm (n + 1) (tb_cost y)) (0 + b) (0 + 6 * b) ρ D cA base yo yL none := fun b hb => by
          unfold am_rm
          exact ⟨B.exec, B.bytes, hml, hts, hown, hρ, hE, by show 1 ≤ n + 1; omega, by show 40 ≤ 33 * (n + 1) + 40; omega, by show 0 + b ≤ tb_cost y; omega, by show 0 + 6 * b ≤ 6 * tb_cost y; omega, hnL, trivial⟩
        have hcatch : ∀ b pc lv rest E i np M', tb_hn y pc E = some (i, np) → E < 3 → b + 1 ≤ tb_cost y → am_at_ p l e (am_rm (n + 1) (tb_cost y)) s m ((as.map (am_cv ρ)).toArray) below meth c (0 + (b + 1)) (0 + 6 * (b + 1)) (MQ below (am_Qc ρ D cA base Q) ((as.map (am_cv ρ)).toArray) s (tb_cost y) (6 * tb_cost y) (am_free base)) ρ D cA base yL np (am_kl i lv) [] M' → ∀ H locs ls ce q9, va_P D tb_cl (am_ws ρ cA M') H → va_S (fun q : Nat => base ≤ q) s.heap H locs → lv_has ls yL (am_cl ρ lv) → H[q9]? = some ce → ce.vm = .none → s.vm.findClass (tb_ex E) = some ce.cls → vx_W p l e (am_rm (n + 1) (tb_cost y)) s m ((as.map (am_cv ρ)).toArray) below meth c H locs (0 + b + 1) (0 + 6 * b + 6) (MQ below (am_Qc ρ D cA base Q) ((as.map (am_cv ρ)).toArray) s (tb_cost y) (6 * tb_cost y) (am_free base)) (F0 m pc ls rest) q9 := by
          intro b pc lv rest E i np M' hhn hE3 hb1 hk H locs ls ce q9 hP hS hl g5 g6 g7
          have hc0 : tb_cost y ≠ 0 := by omega
          obtain ⟨hc1, hh, hhe⟩ := hh1 hc0
          obtain ⟨hK, hstr, hnest, hcast, hdecl, hnc, hU, hN⟩ := hE
          have hn1 : tb_hn y pc E = some (i, np) := hhn
          unfold tb_hn at hn1
          split at hn1
          next hl0 e1 =>
            have h4 := List.all_eq_true.mp tf_h _ (am_al_in e1)
            dsimp only at h4
            rw [hhe, hv] at h4
            obtain ⟨pre, x, suf, k1, k2, k3, k4, k5, ins, len, k6, k7, k8⟩ := am_hsplit (o := yo) (args := (as.map (am_cv ρ)).toArray) (s := s) hE3 hts (fun _ _ _ _ _ => absurd (show (none : Option (List (Nat × Nat × Nat × Nat × Nat × Nat))) = some hl0 from e1) (by simp)) hh hl0 h4 hn1
            have hw0 := hts0 _ (by unfold tb_ws; exact List.mem_cons_self)
            rw [hhe] at hw0
            have htab := vx_table (x := yn) B hw0
            have hi : i < yL := by
              have h5 := List.all_eq_true.mp tf_h2 _ (am_al_in e1)
              dsimp only at h5
              rw [hv] at h5
              obtain ⟨a1, a2, a3, a4⟩ := am_hfind_in _ hn1
              exact Nat.ble_eq.mp (List.all_eq_true.mp h5 _ a4)
            have hcs2 : (Cond.castable (tb_ex E) (tb_ex E)).before ((as.map (am_cv ρ)).toArray) s = true := va_Nw.use rfl (hcast (tb_ex E, tb_ex E) (by
              rcases (show E = 0 ∨ E = 1 ∨ E = 2 by omega) with rfl | rfl | rfl <;> simp [tb_cast, tb_ex]))
            refine vx_catch hown pre x suf (htab.trans k1) k2 k3 k4 k5 hcs2 g5 g6 g7 ?_
            obtain ⟨d1, d2⟩ := hcode _ _ _ k6
            have fin : ∀ ls' : Array Slot, lv_has ls' yL ((i, Value.ref q9) :: am_cl ρ (am_kl i lv)) → W p l e (am_rm (n + 1) (tb_cost y)) s m ((as.map (am_cv ρ)).toArray) below meth c H locs (0 + b + 1) (0 + 6 * b + 6) (MQ below (am_Qc ρ D cA base Q) ((as.map (am_cv ρ)).toArray) s (tb_cost y) (6 * tb_cost y) (am_free base)) (F0 m np ls' []) := fun ls' hl' => hk H locs ls' hP hS ⟨hl'.1, hl'.2.1, fun q hq => hl'.2.2 q (List.mem_cons_of_mem _ hq)⟩
            rcases k7 with rfl | ⟨k, rfl, hki⟩
            · obtain rfl : len = 2 := d2.resolve_left (fun q => by cases q)
              subst k8
              exact lv_astore B.exec B.bytes d1 hl hi (by rw [am_kl_cv]) fin
            · obtain rfl : len = 1 := d2.resolve_left (fun q => by cases q)
              subst k8
              exact lv_astore_n B.exec B.bytes d1 hki hl hi (by rw [am_kl_cv]) fin
          next => cases hn1
        have hWW := am_simW (p := p) (l := l) (e := e) (R := am_rm (n + 1) (tb_cost y)) (s := s) (m := m) (args := (as.map (am_cv ρ)).toArray) (below := below) (meth := meth) (c := c) (Z := MQ below (am_Qc ρ D cA base Q) ((as.map (am_cv ρ)).toArray) s (tb_cost y) (6 * tb_cost y) (am_free base)) (cc := yc) (d := (tb_code y, yo, yL, yr, tb_hn y)) (c0 := 0) (s0 := 0) F hcode ihN ihX
          (by show n + 1 ≤ n + 1; omega) (by show 33 * n + 73 ≤ 33 * (n + 1) + 40; omega)
          (fun b E M _ q => q.2.elim)
          (fun b pc ins len M r H locs ls hb hpc hrk hq hP hS _ => by
            obtain ⟨g1, g2⟩ := hcode _ _ _ hpc
            exact am_ret B.exec B.bytes B.returns B.notSynchronized g1 g2 hrk hq hP hS (by omega) (by omega))
          (fun _ _ _ _ _ _ _ _ _ _ _ _ _ _ _ _ _ _ _ q => q.2.elim)
          (fun _ _ _ _ _ _ _ _ _ _ _ _ _ q => q.2.elim)
          hcatch
          hw (Nat.zero_le _)
        have hent : W p l e (am_rm (n + 1) (tb_cost y)) s m ((as.map (am_cv ρ)).toArray) below meth c s.heap [] 0 0 (MQ below (am_Qc ρ D cA base Q) ((as.map (am_cv ρ)).toArray) s (tb_cost y) (6 * tb_cost y) (am_free base)) (entryFrame m ((as.map (am_cv ρ)).toArray) yL) := by
          have hlen : (lg_sl (as.map (am_cv ρ))).length ≤ yL := by rw [am_sl_len]; exact hcs
          have hl := lv_entry (as.map (am_cv ρ)) hlen
          rw [← am_args_cv] at hl
          rw [lg_entry_eq]
          exact hWW s.heap [] _ hP0 va_S.rf hl
        obtain ⟨t, a1, o, b1, b2, b3⟩ := hent s₁ hh00 (Stand.of_body B)
        exact ⟨t, o, a1, b1, b2, ⟨b3.1, b3.2⟩⟩
    · obtain ⟨yn, yc, yL, yr, yo, yst, ynp⟩ := v
      obtain ⟨hcs, hw⟩ := h
      have hdat : am_dat y = (tb_code y, yo, yL, yr, tb_hn y) := by unfold am_dat; rw [hv]
      rw [hdat] at hcs hw
      obtain ⟨f1, f2, f3, f4, f5, f6, f7, f8, f9⟩ := am_mf hv hy
      obtain ⟨hh0, hh1⟩ := am_hh hv hy
      have hhy := hh0 hyt.1
      have hc0 := hyt.1
      rw [hc0] at hw
      refine MetFree.of_bodySF (code := yc) (maxLocals := yL) (ret := yr) f7 ?_ ?_
      · intro args s m h hn
        have hw0 := atoms_spec (ws := tb_ws y (yn, yc, yL, yr, yo, yst, ynp)) h _ (by unfold tb_ws; exact List.mem_cons_self)
        rw [hhy] at hw0
        obtain ⟨meth, c, h1, h2, h3, h4, h5, h6, -, -⟩ := Cond.code_spec hn hw0
        exact ⟨meth, c, h1, h2, h3, h4, h5, h6⟩
      · intro p e s m args below meth c s₁ B hml hP _
        obtain ⟨rfl, hE, hP0⟩ := hP
        have hh00 : s₁.heap = s.heap := by rw [B.state]; rfl
        have hts0 := atoms_spec (ws := tb_ws y (yn, yc, yL, yr, yo, yst, ynp)) B.pre
        have hts : ∀ w ∈ am_GL, w.before ((as.map (am_cv ρ)).toArray) s = true := fun w hw => hts0 w (by unfold tb_ws; exact List.mem_cons_of_mem _ hw)
        have hown : s.vm.findClass (tb_cn yo) = some m.cls := by rw [← f4]; exact findClass_of_methodNamed B.named
        have hcode : ∀ pc ins len, tb_code y pc = some (ins, len) → decode yc pc = .ok (ins, len) ∧ (am_len ins = 0 ∨ len = am_len ins) := fun pc ins len q => tl_dec hv q
        have hnL : yL ≤ 14 := f8
        have htb : ∀ x ∈ c.exceptionTable.toList, False := by
          have hw0 := hts0 _ (by unfold tb_ws; exact List.mem_cons_self)
          rw [hhy] at hw0
          obtain ⟨meth9, c9, h1, h2, -, -, -, -, h7, -⟩ := Cond.code_spec B.named hw0
          cases Option.some.inj (h1.symm.trans B.method)
          cases Option.some.inj (h2.symm.trans (Stand.of_body B).code)
          intro x hx
          rw [Array.isEmpty_iff.mp h7] at hx
          cases hx
        have F : ∀ b, b ≤ 0 → am_fix p s m ((as.map (am_cv ρ)).toArray) c yc (am_rm (n + 1) 1) (0 + b) (0 + 6 * b) ρ D cA base yo yL none := fun b hb => by
          unfold am_rm
          exact ⟨B.exec, B.bytes, hml, hts, hown, hρ, hE, by show 1 ≤ n + 1; omega, by show 40 ≤ 33 * (n + 1) + 40; omega, by show 0 + b ≤ 1; omega, by show 0 + 6 * b ≤ 6 * 1; omega, hnL, trivial⟩
        have hWW := am_simW (p := p) (l := l) (e := e) (R := am_rm (n + 1) 1) (s := s) (m := m) (args := (as.map (am_cv ρ)).toArray) (below := below) (meth := meth) (c := c) (Z := vx_MQ below (fun _ _ _ _ => False) (am_XC ρ D cA base QX) ((as.map (am_cv ρ)).toArray) s 1 6 (am_free base)) (cc := yc) (d := (tb_code y, yo, yL, yr, tb_hn y)) (c0 := 0) (s0 := 0) F hcode ihN ihX
          (by show n + 1 ≤ n + 1; omega) (by show 33 * n + 73 ≤ 33 * (n + 1) + 40; omega)
          (fun b E M hb q => by
            unfold am_rm
            exact ⟨by show 0 + b + 1 ≤ 1; omega, by show 0 + 6 * b + 6 ≤ 6 * 1; omega⟩)
          (fun _ _ _ _ _ _ _ _ _ _ _ _ q => q.elim)
          (fun b pc len M ik is ic E H locs ls hb hpc hdep h1 h2 h3 h4 h5 hq hP hS hsz => by
            obtain ⟨hK, hstr, hnest, hcast, hdecl, hnc, hU, hN⟩ := hE
            obtain ⟨t1, t2, t3, t4, t5, t6⟩ := am_thf h1 h4 hts hcast hdecl
            obtain ⟨tx, htx⟩ := Option.isSome_iff_exists.mp h3
            obtain ⟨sa, hsa⟩ := hstr _ _ _ htx
            obtain ⟨g1, g2⟩ := hcode _ _ _ hpc
            obtain rfl : len = 3 := g2.resolve_left (fun q => by cases q)
            have hfin : ∀ t : State, s.vm.Alike t.vm → H.size ≤ t.heap.size → (∀ q : Nat, q < H.size → t.heap[q]? = H[q]?) → am_XC ρ D cA base QX (tb_ex E) s t := fun t _ hz hk => by
              refine ⟨⟨E, M, t1, rfl, hq.2, hP.kept (fun k q hkq => hk q.1 (va_at.lt (hP k q hkq)))⟩, Nat.le_trans hS.1 hz, fun q h1 h2 => ?_⟩
              rw [hk q (Nat.lt_of_lt_of_le h1 hS.1)]
              exact hS.2.1 q h1 h2
            rcases h5 with ⟨d4, d6, d9⟩ | ⟨d4, d6, d9⟩
            · exact vx_throwS (own := tb_cn yo) (cls := tb_ex E) (text := tx) (names := tb_exn) (ik := ik) (is := is) (ic := ic) (A := fun q : Nat => base ≤ q) B.exec B.bytes htr hown t4 (fun n hn => List.all_eq_true.mp tf_exf n hn) t2 t3 hsa t5 t6 hU hN hS (hsz.trans hml.symm) g1 (hcode _ _ _ h2).1 (hcode _ _ _ d4).1 (hcode _ _ _ d6).1 (hcode _ _ _ d9).1 (fun x hx => (htb x hx).elim) (by show 2 + 3 < n + 1; omega) (by show 0 + (13 * (2 + 1) + 43) ≤ 33 * (n + 1) + 40; omega) (by show 0 + b + 1 ≤ 1; omega) (by show 0 + 6 * b + 6 ≤ 6 * 1; omega) B.notSynchronized hfin hS.2.2 (by omega) (by omega)
            · exact vx_throwSW (own := tb_cn yo) (cls := tb_ex E) (text := tx) (names := tb_exn) (ik := ik) (is := is) (ic := ic) (A := fun q : Nat => base ≤ q) B.exec B.bytes htr hown t4 (fun n hn => List.all_eq_true.mp tf_exf n hn) t2 t3 hsa t5 t6 hU hN hS (hsz.trans hml.symm) g1 (hcode _ _ _ h2).1 (hcode _ _ _ d4).1 (hcode _ _ _ d6).1 (hcode _ _ _ d9).1 (fun x hx => (htb x hx).elim) (by show 2 + 3 < n + 1; omega) (by show 0 + (13 * (2 + 1) + 43) ≤ 33 * (n + 1) + 40; omega) (by show 0 + b + 1 ≤ 1; omega) (by show 0 + 6 * b + 6 ≤ 6 * 1; omega) B.notSynchronized hfin hS.2.2 (by omega) (by omega))
          (fun b pc ls rest E M' H locs ce q9 hb hE3 _ hq hP hS g5 g6 g7 => vx_out (fun x hx => (htb x hx).elim) B.notSynchronized g5 g6 g7 (fun t ht _ => ⟨⟨E, M', hE3, rfl, hq.2, by rw [ht]; exact hP⟩, hS.F ht⟩) hS.2.2 (by omega) (by omega))
          (fun b pc lv rest E i np M' hhn hE3 hb1 _ _ _ _ _ _ _ _ _ _ _ _ => absurd hb1 (by omega))
          hw (Nat.zero_le _)
        have hent : W p l e (am_rm (n + 1) 1) s m ((as.map (am_cv ρ)).toArray) below meth c s.heap [] 0 0 (vx_MQ below (fun _ _ _ _ => False) (am_XC ρ D cA base QX) ((as.map (am_cv ρ)).toArray) s 1 6 (am_free base)) (entryFrame m ((as.map (am_cv ρ)).toArray) yL) := by
          have hlen : (lg_sl (as.map (am_cv ρ))).length ≤ yL := by rw [am_sl_len]; exact hcs
          have hl := lv_entry (as.map (am_cv ρ)) hlen
          rw [← am_args_cv] at hl
          rw [lg_entry_eq]
          exact hWW s.heap [] _ hP0 va_S.rf hl
        obtain ⟨t, a1, o, b1, b2, b3⟩ := hent s₁ hh00 (Stand.of_body B)
        exact ⟨t, o, a1, b1, b2, b3⟩
end AMH
