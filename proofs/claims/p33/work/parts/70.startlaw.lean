/-! THE CLAIM OUT OF ONE WALK OF THE LAW'S BODY. Your part is whole_start (and what it stands on); all else here is the same for every law, but numbers. -/
def R_law : String := "OathDiaryLaw"
def lw_P (b : Addr) (xs : List Int32) (args : Array Value) (s : State) : Prop := args = #[.ref b] ∧ s.IntsAt b xs ∧ xs.length ≤ 260 ∧ (Jvm.Cond.and given_1 narrow_1).before args s = true
/-- what a walk over the start with the record d0 says of its end, said of the start itself -/
theorem lw_closed {s t : State} {o : Outcome} {d0 : Drawn} {L : List Loc} {k n : Nat} (hd0 : s.drawn.sameBut d0 lw_cs) (hv : ∃ v, o = .returned v) (hW : (s.setDrawn d0).WarmedH t.vm) (hs : (s.setDrawn d0).sameButNew ({ t with vm := s.vm } : State) L k n) : State.butDraws s t lw_cs (fun t1 => Framed s o t1 L k n) := by
  have h2 : t.drawn = d0 := congrArg State.drawn hs.1
  refine ⟨⟨hv, hW, State.sameButNew.setDrawn hs s.drawn⟩, ?_, by decide⟩
  rw [h2]
  exact hd0
def lw_Q (_ : Array Value) (s : State) (o : Outcome) (t : State) : Prop := o = .returned (some (.int 1)) ∧ State.butDraws s t lw_cs (fun t1 => Framed s o t1 [] 600172 7300667)
def lw_Z (below : List Frame) (a : Array Value) (s : State) : State → Prop := fun t => ∃ o, t.status = .running ∧ Ended t below o ∧ lw_Q a s o t
/-- the law's own end, with 1 on the stack, nothing written that was there before, its room as the claim has it; d0: the record of draws at this point (at the entry s.drawn: begin with 'refine W.base ?_' and 'have hd0 := Drawn.sameBut.refl s.drawn lw_cs') -/
theorem lw_ret {p : Program} {l : Launch} {e : Env} {s : State} {m : MethodId} {below : List Frame} {meth : Method} {c : Code} {b : Nat} {d0 : Drawn} (hd0 : s.drawn.sameBut d0 lw_cs) (hx : p.tables.exec = Jvm.exec) (hb : c.code = code) (hr : meth.sig.returnType = ret) (hlocks : meth.locks = false) {pc : Nat} {H : Heap} {ls : Array Slot} (hdg : decode code pc = .ok (.ireturn, 1)) : W p l e room_1 (s.setDrawn d0) m #[Value.ref b] below meth c H [] 600172 7300667 (lw_Z below #[Value.ref b] s) (F0 m pc ls [.int 1]) := by
  intro T hT X
  obtain ⟨fs, hret, hrun, hended, hW, hframe⟩ := X.leave (v := some (.int 1)) (hlocks := hlocks) (fun h => by rw [hr] at h; cases h)
  have hmeth' : T.vm.method? m = some meth := X.method'
  refine ⟨T.setFrames fs, ?_, .returned (some (.int 1)), hrun, hended, rfl, lw_closed hd0 ⟨_, rfl⟩ hW hframe⟩
  jvm_step X.here [X.here.top, hx, hb, hdg, hmeth', hr, ret, narrow_b1]
  (try refine ⟨rfl, ?_⟩); (try refine ⟨rfl, ?_⟩)
  first | (intro acts; rw [hret _ acts rfl rfl rfl]) | rw [hret _ _ rfl rfl rfl]
  exact Steps.refl _
/-- what holds at the law's entry: the machine, the code, the tables' words (any of lw_tbl by 'hts w (by decide +kernel)'), the script of L ints xs at the cell b, what the Statement gives of the start (any of its parts by flat_of_before) -/
def lw_At (p : Program) (s : State) (m : MethodId) (meth : Method) (c : Code) (b L : Nat) (xs : Nat → Int32) : Prop :=
  p.tables.exec = Jvm.exec ∧ c.code = code ∧ meth.sig.returnType = ret ∧ c.maxLocals = 5 ∧ s.vm.findClass R_law = some m.cls ∧ (∀ w ∈ lw_tbl, w.before #[Value.ref b] s = true) ∧ va_X b L xs s s.heap ∧ b < s.heap.size ∧ meth.locks = false ∧ (Jvm.Cond.and given_1 narrow_1).before #[Value.ref b] s = true
set_option maxHeartbeats 4000000 in
set_option maxRecDepth 100000 in
/-- from the law's first question on, over the first memory -/
theorem start_law {p : Program} {e : Env} {s : State} {m : MethodId} {below : List Frame} {meth : Method} {c : Code} (l : Launch) (hflags : l.flags = flags0) {b L : Nat} {xs : Nat → Int32} (hL : L ≤ 260) (C0 : lw_At p s m meth c b L xs) {D : va_G} {cA : Nat → ClassId} {ρ : Nat → Nat} (hb9 : ρ 999 = b) (hE : am_env D cA s.heap.size s s.heap) {H : Heap} {locs : List Loc} {ls : Array Slot} {c0 s0 : Nat} (hc0 : c0 ≤ 600000) (hs0 : s0 ≤ 7000000)
    (hP : va_P D tb_cl (am_ws ρ cA M0) H) (hD : va_D (fun q : Nat => s.heap.size ≤ q) (am_ws ρ cA M0)) (hS : va_S (fun q : Nat => s.heap.size ≤ q) s.heap H locs) (hl : lv_has ls 5 [(0, .ref b), (1, .ref (ρ 0))]) :
    W p l e room_1 s m #[Value.ref b] below meth c H locs c0 s0 (lw_Z below #[Value.ref b] s) (F0 m 8 ls []) := by
  obtain ⟨hx, hb, hr, hml, hown, hts, hX, hbl, hlocks, hgv⟩ := id C0
  have htr : l.stackTraces = false := by
    unfold Launch.stackTraces
    rw [hflags]
    decide +kernel
  have hρ : am_ρ ρ s.heap.size := by
    refine ⟨fun a b' ha hb' he => ?_, fun a ha => ?_⟩
    · exact hD.1 a b' _ _ (am_ws_at (List.getElem?_eq_getElem ha)) (am_ws_at (List.getElem?_eq_getElem hb')) he
    · exact hD.2 a _ (am_ws_at (List.getElem?_eq_getElem ha))
  obtain ⟨ihN, ihX⟩ := am_sound (l := l) (D := D) (cA := cA) hρ htr 9
  have hm : tb_m 88 = some (yL_law, cL_law, 5, some .boolean, 9, true, 1) := rfl
  have hcode : ∀ pc ins len, tk_L_law pc = some (ins, len) → decode code pc = .ok (ins, len) ∧ (am_len ins = 0 ∨ len = am_len ins) := fun pc ins len q => tl_dec (r := (ins, len)) hm (show tb_code 88 pc = some (ins, len) from q)
  have hd0 := Drawn.sameBut.refl s.drawn lw_cs
  have htsG : ∀ w ∈ am_GL, w.before #[Value.ref b] s = true := fun w hw => hts w (List.mem_filter.mp hw).1
  have F : ∀ k, k ≤ 0 → am_fix p s m #[Value.ref b] c code room_1 (c0 + k) (s0 + 6 * k) ρ D cA s.heap.size 9 5 (some ((L : Int), fun i => (xs i.toNat).toInt)) := fun k hk => by
    refine ⟨hx, hb, hml, htsG, hown, hρ, hE, Nat.le_of_ble_eq_true rfl, Nat.le_of_ble_eq_true rfl, by show c0 + k ≤ 600172; omega, by show s0 + 6 * k ≤ 7300667; omega, by omega, L, xs, rfl, by omega, by rw [hb9]; exact hX, by rw [hb9]; exact hbl, by rw [hb9]; omega, fun j hj => ?_⟩
    show Int32.ofInt (xs ((j : Int)).toNat).toInt = xs j
    rw [Int.toNat_natCast, Int32.ofInt_toInt]
  have hWW := am_simW (p := p) (l := l) (e := e) (R := room_1) (s := s) (m := m) (args := #[Value.ref b]) (below := below) (meth := meth) (c := c) (Z := lw_Z below #[Value.ref b] s) (cc := code) (d := dt_L_law) (n := 9) (dep := 8) (cap := 0) (c0 := c0) (s0 := s0) (Q := am_QI (fun x _ => x = 1)) (QX := fun _ _ => False) F hcode ihN ihX
    (Nat.le_of_ble_eq_true rfl) (Nat.le_of_ble_eq_true rfl)
    (fun _ _ _ _ q => q.elim)
    (fun k pc ins len M r H locs ls hk hpc hrk hq hP hS _ => by
      obtain ⟨x, rfl, rfl⟩ := hq
      rcases hrk with ⟨rfl, -⟩ | ⟨rfl, y, h1, -⟩ | ⟨rfl, y, h1, -⟩ | ⟨rfl, y, h1, -⟩ | ⟨rfl, h1, -⟩
      · obtain ⟨g1, g2⟩ := hcode _ _ _ hpc
        obtain rfl : len = 1 := g2.resolve_left (fun q => by cases q)
        refine va_forget (fun q hq => hS.2.2 q hq) ?_
        refine W.widen (k := 600172) (n := 7300667) (by omega) (by omega) ?_
        refine W.base ?_
        exact lw_ret hd0 hx hb hr hlocks g1
      · cases h1
      · cases h1
      · cases h1
      · cases h1)
    (fun k pc len M ik is ic E H locs ls _ _ _ h1 => by
      have h2 : tb_thr 9 ik = none := rfl
      rw [show dt_L_law.2.1 = 9 from rfl, h2] at h1
      cases h1)
    (fun _ _ _ _ _ _ _ _ _ _ _ _ _ q => q.elim)
    (fun k pc lv rest E i np M' h1 => by
      have h2 : tb_hn 88 pc E = none := rfl
      rw [show dt_L_law.2.2.2.2 pc E = tb_hn 88 pc E from rfl, h2] at h1
      cases h1)
    (x := (0, 8, [(0, .inr (.inl (some 999))), (1, .inr (.inl (some 0)))], [], M0))
    (tj_L_law_8 (X := fun _ _ => False) (scr := ((L : Int), fun i => (xs i.toNat).toInt)) (fun _ _ q => q) 0 M0 (law_0 (fun _ => rfl))) (Nat.zero_le _)
  subst hb9
  exact hWW H locs ls hP hS hl
