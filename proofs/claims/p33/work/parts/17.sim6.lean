def am_rk (ins : Instr) (ret : Option FieldType) (r : Option am_V) : Prop :=
  (ins = .ireturn ∧ ∃ x, r = some (.inl x) ∧ (ret = some .int ∨ (ret = some .boolean ∧ (x = 0 ∨ x = 1)))) ∨ (ins = .lreturn ∧ ∃ x, r = some (.inr (.inr (.inl x))) ∧ ret = some .long) ∨ (ins = .dreturn ∧ ∃ x, r = some (.inr (.inr (.inr x))) ∧ ret = some .double) ∨
  (ins = .areturn ∧ ∃ x, r = some (.inr (.inl x)) ∧ ∃ C, ret = some (.object C)) ∨ (ins = .return_ ∧ r = none ∧ ret = none)
def tb_n222 (_ _ : Nat) (v : Nat × Nat × Bool × Nat) : Bool := Nat.blt v.1 88
theorem tf_n222 : tb_callL.all (fun q => q.2.all (fun r => tb_n222 q.1 r.1 r.2)) = true := by decide +kernel
theorem am_n222 {o k y nn : Nat} {b : Bool} (h : tb_call o k = some (y, nn, b)) : y ≠ 88 := by
  unfold tb_call at h
  split at h
  next y' n' b' pos e =>
    cases h
    have h2 := am_al2_all (f := tb_n222) e tf_n222
    exact Nat.ne_of_lt (Nat.ble_eq.mp h2)
  next => cases h
section AME
variable {p : Program} {l : Launch} {e : Env} {R : Room} {s : State} {m : MethodId} {args : Array Value} {below : List Frame} {meth : Method} {c : Code} {Z : State → Prop} {cc : ByteArray} {ρ : Nat → Nat} {D : va_G} {cA : Nat → ClassId} {base nL : Nat} {scr : Option (Int × (Int → Int))}
set_option maxHeartbeats 4000000 in
theorem am_simW {d : am_D} {n dep cap c0 s0 : Nat} {Q : am_Q} {QX : am_X} (F : ∀ b, b ≤ cap → am_fix p s m args c cc R (c0 + b) (s0 + 6 * b) ρ D cA base d.2.1 d.2.2.1 scr)
    (hcode : ∀ pc ins len, d.1 pc = some (ins, len) → decode cc pc = .ok (ins, len) ∧ (am_len ins = 0 ∨ len = am_len ins))
    (hN : ∀ y as M Q, y ≠ 88 → am_CC n y as M Q (fun _ _ => False) → am_CN l ρ D cA base n y as M Q)
    (hX : ∀ y as M QX, y ≠ 88 → tb_thw y → am_CC n y as M (fun _ _ => False) QX → am_CX l ρ D cA base n y as M QX)
    (hrf : n + 1 ≤ R.frames) (hrl : 33 * n + 73 ≤ R.locals)
    (hQXr : ∀ b E M, b ≤ cap → QX E M → c0 + b + 1 ≤ R.cells ∧ s0 + 6 * b + 6 ≤ R.slots)
    (hret : ∀ b pc ins len M r H locs ls, b ≤ cap → d.1 pc = some (ins, len) → am_rk ins d.2.2.2.1 r → Q r M → va_P D tb_cl (am_ws ρ cA M) H → va_S (fun q : Nat => base ≤ q) s.heap H locs → ls.size = d.2.2.1 → W p l e R s m args below meth c H locs (c0 + b) (s0 + 6 * b) Z (F0 m pc ls ((am_push r []).map (am_cv ρ))))
    (hthr : ∀ b pc len M ik is ic E H locs ls, b ≤ cap → d.1 pc = some (.new ik, len) → 5 ≤ dep → tb_thr d.2.1 ik = some E → d.1 (pc + 3) = some (.dup, 1) → (tb_str d.2.1 is).isSome = true → tb_thc d.2.1 ic = some E →
      ((d.1 (pc + 4) = some (.ldc is, 2) ∧ d.1 (pc + 6) = some (.invokespecial ic, 3) ∧ d.1 (pc + 9) = some (.athrow, 1)) ∨ (d.1 (pc + 4) = some (.ldc_w is, 3) ∧ d.1 (pc + 7) = some (.invokespecial ic, 3) ∧ d.1 (pc + 10) = some (.athrow, 1))) → QX E M →
      va_P D tb_cl (am_ws ρ cA M) H → va_S (fun q : Nat => base ≤ q) s.heap H locs → ls.size = d.2.2.1 → W p l e R s m args below meth c H locs (c0 + b) (s0 + 6 * b) Z (F0 m pc ls []))
    (hprop : ∀ b pc ls rest E M' H locs ce q9, b ≤ cap → E < 3 → d.2.2.2.2 pc E = none → QX E M' → va_P D tb_cl (am_ws ρ cA M') H → va_S (fun q : Nat => base ≤ q) s.heap H locs → H[q9]? = some ce → ce.vm = .none → s.vm.findClass (tb_ex E) = some ce.cls → vx_W p l e R s m args below meth c H locs (c0 + b + 1) (s0 + 6 * b + 6) Z (F0 m pc ls rest) q9)
    (hcat : ∀ b pc lv rest E i np M', d.2.2.2.2 pc E = some (i, np) → E < 3 → b + 1 ≤ cap → am_at_ p l e R s m args below meth c (c0 + (b + 1)) (s0 + 6 * (b + 1)) Z ρ D cA base d.2.2.1 np (am_kl i lv) [] M' → ∀ H locs ls ce q9, va_P D tb_cl (am_ws ρ cA M') H → va_S (fun q : Nat => base ≤ q) s.heap H locs → lv_has ls d.2.2.1 (am_cl ρ lv) → H[q9]? = some ce → ce.vm = .none → s.vm.findClass (tb_ex E) = some ce.cls → vx_W p l e R s m args below meth c H locs (c0 + b + 1) (s0 + 6 * b + 6) Z (F0 m pc ls rest) q9)
    {x : am_C} (h : am_W (am_CC n) d dep cap scr Q QX x) (hb0 : x.1 ≤ cap) : am_at_ p l e R s m args below meth c (c0 + x.1) (s0 + 6 * x.1) Z ρ D cA base d.2.2.1 x.2.1 x.2.2.1 x.2.2.2.1 x.2.2.2.2 := by
  refine h (fun x => x.1 ≤ cap → am_at_ p l e R s m args below meth c (c0 + x.1) (s0 + 6 * x.1) Z ρ D cA base d.2.2.1 x.2.1 x.2.2.1 x.2.2.2.1 x.2.2.2.2) ?_ hb0
  clear h hb0 x
  intro x hx hbx
  obtain ⟨b, pc, lv0, st, M⟩ := x
  dsimp only at hbx ⊢
  obtain ⟨lv, ins, len, hsub, hcd, hx⟩ := hx
  dsimp only at hsub hcd hx
  obtain ⟨hd, hlen⟩ := hcode _ _ _ hcd
  have Fb := F b hbx
  suffices hh : am_at_ p l e R s m args below meth c (c0 + b) (s0 + 6 * b) Z ρ D cA base d.2.2.1 pc lv st M from fun H locs ls hP hS hl => hh H locs ls hP hS (am_sub hl hsub)
  obtain ⟨hex, hb, hml, hts, hown, hρ, hE, hRf, hRl, hRc, hRs, hnL, hscr⟩ := id Fb
  rcases hx with h | h | h | h | h | h | h | h | h | h | h | h
  · obtain ⟨P, pc', lv', st', M', h1, h2, h3⟩ := h
    exact am_sim1 Fb hd hlen h1 h2 (h3 hbx)
  · obtain ⟨P, bb, t, st', h1, h2, h3, h4⟩ := h
    exact am_sBr hex hb hd hlen h1 h2 (fun q => h3 q hbx) (fun q => h4 q hbx)
  · obtain ⟨dflt, lo, hi, offs, x, st', t, rfl, rfl, h3, h4, h5, h6⟩ := h
    intro H locs ls hP hS hl
    have hi' := am_toInt h3
    by_cases hq : x < lo ∨ hi < x
    · exact lv_tableOut hex hb hd (by rw [hi']; exact hq) (am_tg_eq h4) (h5 hq hbx H locs ls hP hS hl)
    · obtain ⟨off, t', g1, g2, g3⟩ := h6 (x - lo).toNat (by omega) (by omega)
      exact lv_tableIn hex hb hd (by rw [hi']; omega) (by rw [hi']; omega) (by rw [hi']; exact g1) (am_tg_eq g2) (g3 hbx H locs ls hP hS hl)
  · obtain ⟨dflt, ps, x, st', rfl, h2, rfl, h3, t, h5, h6⟩ := h
    intro H locs ls hP hS hl
    exact lv_lookup hex hb hd h2 (by rw [am_toInt h3]) (am_tg_eq h5) (h6 hbx H locs ls hP hS hl)
  · obtain ⟨i, a, rs, st', rfl, rfl, h3, h4, h5⟩ := h
    intro H locs ls hP hS hl
    obtain rfl : len = 1 := hlen.resolve_left (fun q => by cases q)
    obtain ⟨v1, v2⟩ := am_vpin (am_lay_r h3) h4
    have hl2 : i.toNat < rs.length := by omega
    have e0 : rs[i.toNat]? = some rs[i.toNat] := List.getElem?_eq_getElem hl2
    have k1 := h5 i.toNat _ e0 (by omega) hbx H locs ls hP hS hl
    refine va_aldq hex hb hE.1 hP a 2 (am_ws_at h3) rfl v1 hd ?_
    rw [v2, e0]
    exact k1
  · obtain ⟨k, y, nn, bb, Qc, QXc, h1, h2, h3, h4, h5, h6, h7, h8, h9⟩ := h
    have hy := am_n222 h2
    have goN : am_CC n y (st.take nn).reverse M Qc (fun _ _ => False) → am_at_ p l e R s m args below meth c (c0 + b) (s0 + 6 * b) Z ρ D cA base d.2.2.1 pc lv st M := fun g => by
      have hroom := F (b + tb_cost y) h6
      obtain ⟨-, -, -, -, -, -, -, -, -, r1, r2, -, -⟩ := hroom
      refine am_sCallN Fb hd hlen h1 h2 h3 h4 h5 hy hrf hrl ⟨by omega, by omega⟩ (hN _ _ _ _ hy g) (fun r M' q => ?_)
      have g2 := h8 r M' q h6
      rw [show c0 + b + tb_cost y = c0 + (b + tb_cost y) by omega, show s0 + 6 * b + 6 * tb_cost y = s0 + 6 * (b + tb_cost y) by omega]
      exact g2
    by_cases hyt : tb_thw y
    · rcases am_CC_split h7 with g | g
      · exact goN g
      · by_cases hq : ∃ E M', QXc E M'
        · obtain ⟨E0, M0, hq0⟩ := hq
          have hroom : c0 + b + 1 ≤ R.cells ∧ s0 + 6 * b + 6 ≤ R.slots := by
            have g3 := h9 E0 M0 hq0
            cases hh : d.2.2.2.2 pc E0 with
            | none => rw [hh] at g3; exact hQXr b E0 M0 hbx g3
            | some z =>
              rw [hh] at g3
              obtain ⟨-, -, -, -, -, -, -, -, -, r1, r2, -, -⟩ := F (b + 1) g3.1
              exact ⟨by omega, by omega⟩
          refine am_sCallX Fb hd hlen h1 h2 h3 h4 h5 hy hyt hrf hrl hroom (hX _ _ _ _ hy hyt g) (fun E M' H1 locs1 ls ce q9 hE3 hqx hP1 hS1 hl1 g5 g6 g7 => ?_)
          have g3 := h9 E M' hqx
          cases hh : d.2.2.2.2 pc E with
          | none => rw [hh] at g3; exact hprop b pc ls _ E M' H1 locs1 ce q9 hbx hE3 hh g3 hP1 hS1 g5 g6 g7
          | some z =>
            rw [hh] at g3
            exact hcat b pc lv _ E z.1 z.2 M' hh hE3 g3.1 (g3.2 g3.1) H1 locs1 ls ce q9 hP1 hS1 hl1 g5 g6 g7
        · exact goN (am_CC_mono n (fun _ _ q => q.elim) (fun E M' q => hq ⟨E, M', q⟩) g)
    · exact goN (am_CC_w n hyt h7)
  · obtain ⟨x, rfl, rfl, h3, h4⟩ := h
    intro H locs ls hP hS hl
    exact hret b pc _ len M _ H locs ls hbx hcd (Or.inl ⟨rfl, x, rfl, h3⟩) h4 hP hS hl.1
  · obtain ⟨x, rfl, rfl, h3, h4⟩ := h
    intro H locs ls hP hS hl
    exact hret b pc _ len M _ H locs ls hbx hcd (Or.inr (Or.inl ⟨rfl, x, rfl, h3⟩)) h4 hP hS hl.1
  · obtain ⟨x, rfl, rfl, h3, h4⟩ := h
    intro H locs ls hP hS hl
    exact hret b pc _ len M _ H locs ls hbx hcd (Or.inr (Or.inr (Or.inl ⟨rfl, x, rfl, h3⟩))) h4 hP hS hl.1
  · obtain ⟨x, rfl, rfl, h3, h4⟩ := h
    intro H locs ls hP hS hl
    exact hret b pc _ len M _ H locs ls hbx hcd (Or.inr (Or.inr (Or.inr (Or.inl ⟨rfl, x, rfl, h3⟩)))) h4 hP hS hl.1
  · obtain ⟨rfl, rfl, h3, h4⟩ := h
    intro H locs ls hP hS hl
    exact hret b pc _ len M none H locs ls hbx hcd (Or.inr (Or.inr (Or.inr (Or.inr ⟨rfl, rfl, h3⟩)))) h4 hP hS hl.1
  · obtain ⟨ik, is, ic, E, rfl, h0, h2, rfl, h4, h5, h6, h7, h8⟩ := h
    intro H locs ls hP hS hl
    exact hthr b pc len M ik is ic E H locs ls hbx hcd h0 h2 h4 h5 h6 h7 h8 hP hS hl.1
end AME
