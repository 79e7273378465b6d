/-! The rules by which a printed condition gives a walk of the small machine. -/
def am_run (o nL : Nat) (scr : Option (Int × (Int → Int))) (code : Nat → Option (Instr × Nat)) : Nat → Nat → am_L → List am_V → am_M → am_R
  | 0, pc, lv, st, M => some ([], pc, lv, st, M)
  | n + 1, pc, lv, st, M => match code pc with
    | none => none
    | some (ins, _) => match am_s1 o nL scr ins pc lv st M with
      | none => none
      | some (ps, pc', lv', st', M') => match am_run o nL scr code n pc' lv' st' M' with
        | none => none
        | some (qs, r) => some (ps ++ qs, r)
theorem am_all_app : ∀ {ps qs : List Prop}, am_all (ps ++ qs) → am_all ps ∧ am_all qs
  | [], _, h => ⟨trivial, h⟩
  | _ :: r, _, h => ⟨⟨h.1, (am_all_app (ps := r) h.2).1⟩, (am_all_app (ps := r) h.2).2⟩
section AMW
variable {CC : am_CCt} {d : am_D} {dep cap : Nat} {scr : Option (Int × (Int → Int))} {Q : am_Q} {QX : am_X} {b : Nat}
theorem am_Wrun : ∀ (k : Nat) {pc : Nat} {lv : am_L} {st : List am_V} {M : am_M} {ps : List Prop} {pc' : Nat} {lv' : am_L} {st' : List am_V} {M' : am_M}, am_run d.2.1 d.2.2.1 scr d.1 k pc lv st M = some (ps, pc', lv', st', M') → am_all ps → am_W CC d dep cap scr Q QX (b, pc', lv', st', M') → am_W CC d dep cap scr Q QX (b, pc, lv, st, M)
  | 0, _, _, _, _, _, _, _, _, _, h, _, hn => by cases h; exact hn
  | k + 1, pc, lv, st, M, _, _, _, _, _, h, hp, hn => by
    unfold am_run at h
    split at h
    next => cases h
    next ins len e1 =>
      split at h
      next => cases h
      next ps' pc1 lv1 st1 M1 e2 =>
        split at h
        next => cases h
        next qs r e3 =>
          cases h
          obtain ⟨h1, h2⟩ := am_all_app hp
          exact am_W_in ⟨lv, ins, len, fun _ q => q, e1, Or.inl ⟨_, _, _, _, _, e2, h1, am_Wrun k e3 h2 hn⟩⟩
theorem am_Wbr {pc len t f : Nat} {ins : Instr} {lv : am_L} {st st' : List am_V} {M : am_M} {P : List Prop} {c : Prop} (hc : d.1 pc = some (ins, len)) (hb : am_br ins pc st = some (P, c, t, st')) (hp : am_all P) (hf : pc + 3 = f) (kt : c → am_W CC d dep cap scr Q QX (b, t, lv, st', M)) (kf : ¬ c → am_W CC d dep cap scr Q QX (b, f, lv, st', M)) : am_W CC d dep cap scr Q QX (b, pc, lv, st, M) := by
  subst hf
  exact am_W_in ⟨lv, ins, len, fun _ q => q, hc, Or.inr (Or.inl ⟨P, c, t, st', hb, hp, kt, kf⟩)⟩
theorem am_Wsw {pc len t n : Nat} {lv : am_L} {st' : List am_V} {M : am_M} {dflt lo hi : Int} {offs : Array Int} {x : Int} (hc : d.1 pc = some (.tableswitch dflt lo hi offs, len)) (hx : am_rg x) (ht : am_tg pc dflt = some t) (hn : hi + 1 = lo + (n : Nat)) (kd : (x < lo ∨ hi < x) → am_W CC d dep cap scr Q QX (b, t, lv, st', M))
    (kj : ∀ j : Nat, j < n → x = lo + (j : Nat) → ∃ off t', offs[j]? = some off ∧ am_tg pc off = some t' ∧ am_W CC d dep cap scr Q QX (b, t', lv, st', M)) : am_W CC d dep cap scr Q QX (b, pc, lv, .inl x :: st', M) :=
  am_W_in ⟨lv, _, len, fun _ q => q, hc, Or.inr (Or.inr (Or.inl ⟨dflt, lo, hi, offs, x, st', t, rfl, rfl, hx, ht, kd, fun j e1 e2 => kj j (by omega) e1⟩))⟩
theorem am_Wlsw {pc len t : Nat} {lv : am_L} {st' : List am_V} {M : am_M} {dflt : Int} {ps : Array (Int × Int)} {x : Int} (hc : d.1 pc = some (.lookupswitch dflt ps, len)) (hs : (ps.toList.zip (ps.toList.drop 1)).all (fun (a, next) => a.1 < next.1) = true) (hx : am_rg x) (ht : am_tg pc (Op.lookupswitch.offset ps.toList dflt x) = some t) (k : am_W CC d dep cap scr Q QX (b, t, lv, st', M)) : am_W CC d dep cap scr Q QX (b, pc, lv, .inl x :: st', M) :=
  am_W_in ⟨lv, _, len, fun _ q => q, hc, Or.inr (Or.inr (Or.inr (Or.inl ⟨dflt, ps, x, st', rfl, hs, rfl, hx, t, ht, k⟩)))⟩
theorem am_Waald {pc len a f : Nat} {lv : am_L} {st' : List am_V} {M : am_M} {i : Int} {rs : List Nat} (hc : d.1 pc = some (.aaload, len)) (hl : tb_lay[a]? = some (.inr (.inl rs))) (hi : 0 ≤ i ∧ i < (rs.length : Nat)) (hf : pc + 1 = f) (k : ∀ (j r : Nat), rs[j]? = some r → i = (j : Int) → am_W CC d dep cap scr Q QX (b, f, lv, .inr (.inl (some r)) :: st', M)) : am_W CC d dep cap scr Q QX (b, pc, lv, .inl i :: .inr (.inl (some a)) :: st', M) := by
  subst hf
  exact am_W_in ⟨lv, _, len, fun _ q => q, hc, Or.inr (Or.inr (Or.inr (Or.inr (Or.inl ⟨i, a, rs, st', rfl, rfl, hl, hi, k⟩))))⟩
theorem am_recv_of {y a : Nat} {as : List am_V} {v : tb_T} {fk : List (Option Nat)} (hm : tb_m y = some v) (hs : v.2.2.2.2.2.1 = false) (hl : tb_lay[a]? = some (.inr (.inr (v.2.2.2.2.1, fk)))) : am_recv y (.inr (.inl (some a)) :: as) := by
  obtain ⟨n, c, nL, ret, o, st, np⟩ := v
  dsimp only at hs hl
  subst hs
  unfold am_recv
  rw [hm]
  exact ⟨fk, hl⟩
theorem am_recv_st {y : Nat} {as : List am_V} {v : tb_T} (hm : tb_m y = some v) (hs : v.2.2.2.2.2.1 = true) : am_recv y as := by
  obtain ⟨n, c, nL, ret, o, st, np⟩ := v
  dsimp only at hs
  subst hs
  unfold am_recv
  rw [hm]
  trivial
theorem am_iv_v {y k : Nat} {v : tb_T} (hm : tb_m y = some v) (hs : v.2.2.2.2.2.1 = false) : am_iv y k (.invokevirtual k) := by
  obtain ⟨n, c, nL, ret, o, st, np⟩ := v
  dsimp only at hs
  subst hs
  unfold am_iv
  rw [hm]
theorem am_iv_s {y k : Nat} {v : tb_T} (hm : tb_m y = some v) (hs : v.2.2.2.2.2.1 = true) : am_iv y k (.invokestatic k) := by
  obtain ⟨n, c, nL, ret, o, st, np⟩ := v
  dsimp only at hs
  subst hs
  unfold am_iv
  rw [hm]
/-- a virtual call of the object a, of n values and it -/
theorem am_WcallV {pc k y n a f : Nat} {bb : Bool} {lv : am_L} {st st' : List am_V} {M : am_M} {as : List am_V} {v : tb_T} {fk : List (Option Nat)} {Qc : am_Q} {QXc : am_X} (hc : d.1 pc = some (.invokevirtual k, 3)) (hcall : tb_call d.2.1 k = some (y, n, bb)) (hm : tb_m y = some v) (hs : v.2.2.2.2.2.1 = false) (hl : tb_lay[a]? = some (.inr (.inr (v.2.2.2.2.1, fk))))
    (has : (st.take n).reverse = .inr (.inl (some a)) :: as) (hlen : (st.take n).length = n) (hst : st.drop n = st') (hcs : Nat.ble (am_cs st') 8 = true) (hcost : tb_cost y = 0) (hb : b ≤ cap) (hf : pc + 3 = f) (hC : CC y (.inr (.inl (some a)) :: as) M Qc QXc)
    (kr : ∀ r M', Qc r M' → am_W CC d dep cap scr Q QX (b, f, lv, am_push r st', M')) (kx : ∀ E M', QXc E M' → match d.2.2.2.2 pc E with
        | none => QX E M'
        | some (i, np) => b + 1 ≤ cap ∧ am_W CC d dep cap scr Q QX (b + 1, np, am_kl i lv, [], M')) : am_W CC d dep cap scr Q QX (b, pc, lv, st, M) := by
  subst hf; subst hst
  refine am_W_in ⟨lv, _, 3, fun _ q => q, hc, Or.inr (Or.inr (Or.inr (Or.inr (Or.inr (Or.inl ⟨k, y, n, bb, Qc, QXc, am_iv_v hm hs, hcall, hlen, ?_, Nat.ble_eq.mp hcs, ?_, ?_, fun r M' q => ?_, kx⟩)))))⟩
  · show am_recv y (st.take n).reverse
    rw [has]; exact am_recv_of hm hs hl
  · show b + tb_cost y ≤ cap
    rw [hcost]; exact hb
  · show CC y (st.take n).reverse M Qc QXc
    rw [has]; exact hC
  · show am_W CC d dep cap scr Q QX (b + tb_cost y, pc + 3, lv, am_push r (st.drop n), M')
    rw [hcost]; exact kr r M' q
theorem am_WcallS {pc k y n f co : Nat} {bb : Bool} {lv : am_L} {st st' : List am_V} {M : am_M} {as : List am_V} {v : tb_T} {Qc : am_Q} {QXc : am_X} (hc : d.1 pc = some (.invokestatic k, 3)) (hcall : tb_call d.2.1 k = some (y, n, bb)) (hm : tb_m y = some v) (hs : v.2.2.2.2.2.1 = true)
    (has : (st.take n).reverse = as) (hlen : (st.take n).length = n) (hst : st.drop n = st') (hcs : Nat.ble (am_cs st') 8 = true) (hcost : tb_cost y = co) (hb : b + co ≤ cap) (hf : pc + 3 = f) (hC : CC y as M Qc QXc)
    (kr : ∀ r M', Qc r M' → am_W CC d dep cap scr Q QX (b + co, f, lv, am_push r st', M')) (kx : ∀ E M', QXc E M' → match d.2.2.2.2 pc E with
        | none => QX E M'
        | some (i, np) => b + 1 ≤ cap ∧ am_W CC d dep cap scr Q QX (b + 1, np, am_kl i lv, [], M')) : am_W CC d dep cap scr Q QX (b, pc, lv, st, M) := by
  subst hf; subst hst; subst has; subst hcost
  exact am_W_in ⟨lv, _, 3, fun _ q => q, hc, Or.inr (Or.inr (Or.inr (Or.inr (Or.inr (Or.inl ⟨k, y, n, bb, Qc, QXc, am_iv_s hm hs, hcall, hlen, am_recv_st hm hs, Nat.ble_eq.mp hcs, hb, hC, kr, kx⟩)))))⟩
def am_QI (Q : Int → am_M → Prop) : am_Q := fun r M => ∃ x, r = some (.inl x) ∧ Q x M
def am_QL (Q : Int → am_M → Prop) : am_Q := fun r M => ∃ x, r = some (.inr (.inr (.inl x))) ∧ Q x M
def am_QD (Q : UInt64 → am_M → Prop) : am_Q := fun r M => ∃ x, r = some (.inr (.inr (.inr x))) ∧ Q x M
def am_QR (Q : Option Nat → am_M → Prop) : am_Q := fun r M => ∃ x, r = some (.inr (.inl x)) ∧ Q x M
def am_QV (Q : am_M → Prop) : am_Q := fun r M => r = none ∧ Q M
theorem am_Wreti {pc len : Nat} {lv : am_L} {M : am_M} {x : Int} {q : Int → am_M → Prop} (hc : d.1 pc = some (.ireturn, len)) (hr : d.2.2.2.1 = some .int) (h : q x M) : am_W CC d dep cap scr (am_QI q) QX (b, pc, lv, [.inl x], M) :=
  am_W_in ⟨lv, _, len, fun _ q => q, hc, Or.inr (Or.inr (Or.inr (Or.inr (Or.inr (Or.inr (Or.inl ⟨x, rfl, rfl, Or.inl hr, x, rfl, h⟩))))))⟩
theorem am_Wretz {pc len : Nat} {lv : am_L} {M : am_M} {x : Int} {q : Int → am_M → Prop} (hc : d.1 pc = some (.ireturn, len)) (hr : d.2.2.2.1 = some .boolean) (hx : x = 0 ∨ x = 1) (h : q x M) : am_W CC d dep cap scr (am_QI q) QX (b, pc, lv, [.inl x], M) :=
  am_W_in ⟨lv, _, len, fun _ q => q, hc, Or.inr (Or.inr (Or.inr (Or.inr (Or.inr (Or.inr (Or.inl ⟨x, rfl, rfl, Or.inr ⟨hr, hx⟩, x, rfl, h⟩))))))⟩
theorem am_Wretl {pc len : Nat} {lv : am_L} {M : am_M} {x : Int} {q : Int → am_M → Prop} (hc : d.1 pc = some (.lreturn, len)) (hr : d.2.2.2.1 = some .long) (h : q x M) : am_W CC d dep cap scr (am_QL q) QX (b, pc, lv, [.inr (.inr (.inl x))], M) :=
  am_W_in ⟨lv, _, len, fun _ q => q, hc, Or.inr (Or.inr (Or.inr (Or.inr (Or.inr (Or.inr (Or.inr (Or.inl ⟨x, rfl, rfl, hr, x, rfl, h⟩)))))))⟩
theorem am_Wretd {pc len : Nat} {lv : am_L} {M : am_M} {x : UInt64} {q : UInt64 → am_M → Prop} (hc : d.1 pc = some (.dreturn, len)) (hr : d.2.2.2.1 = some .double) (h : q x M) : am_W CC d dep cap scr (am_QD q) QX (b, pc, lv, [.inr (.inr (.inr x))], M) :=
  am_W_in ⟨lv, _, len, fun _ q => q, hc, Or.inr (Or.inr (Or.inr (Or.inr (Or.inr (Or.inr (Or.inr (Or.inr (Or.inl ⟨x, rfl, rfl, hr, x, rfl, h⟩))))))))⟩
theorem am_Wreta {pc len : Nat} {lv : am_L} {M : am_M} {x : Option Nat} {C : String} {q : Option Nat → am_M → Prop} (hc : d.1 pc = some (.areturn, len)) (hr : d.2.2.2.1 = some (.object C)) (h : q x M) : am_W CC d dep cap scr (am_QR q) QX (b, pc, lv, [.inr (.inl x)], M) :=
  am_W_in ⟨lv, _, len, fun _ q => q, hc, Or.inr (Or.inr (Or.inr (Or.inr (Or.inr (Or.inr (Or.inr (Or.inr (Or.inr (Or.inl ⟨x, rfl, rfl, ⟨C, hr⟩, x, rfl, h⟩)))))))))⟩
theorem am_Wretv {pc len : Nat} {lv : am_L} {M : am_M} {q : am_M → Prop} (hc : d.1 pc = some (.return_, len)) (hr : d.2.2.2.1 = none) (h : q M) : am_W CC d dep cap scr (am_QV q) QX (b, pc, lv, [], M) :=
  am_W_in ⟨lv, _, len, fun _ q => q, hc, Or.inr (Or.inr (Or.inr (Or.inr (Or.inr (Or.inr (Or.inr (Or.inr (Or.inr (Or.inr (Or.inl ⟨rfl, rfl, hr, rfl, h⟩))))))))))⟩
theorem am_Wthr {pc len ik is ic E : Nat} {lv : am_L} {M : am_M} (hc : d.1 pc = some (.new ik, len)) (hd : 5 ≤ dep) (h1 : tb_thr d.2.1 ik = some E) (h2 : d.1 (pc + 3) = some (.dup, 1)) (h3 : (tb_str d.2.1 is).isSome = true) (h4 : tb_thc d.2.1 ic = some E)
    (h5 : (d.1 (pc + 4) = some (.ldc is, 2) ∧ d.1 (pc + 6) = some (.invokespecial ic, 3) ∧ d.1 (pc + 9) = some (.athrow, 1)) ∨ (d.1 (pc + 4) = some (.ldc_w is, 3) ∧ d.1 (pc + 7) = some (.invokespecial ic, 3) ∧ d.1 (pc + 10) = some (.athrow, 1))) (h : QX E M) : am_W CC d dep cap scr Q QX (b, pc, lv, [], M) :=
  am_W_in ⟨lv, _, len, fun _ q => q, hc, Or.inr (Or.inr (Or.inr (Or.inr (Or.inr (Or.inr (Or.inr (Or.inr (Or.inr (Or.inr (Or.inr ⟨ik, is, ic, E, rfl, hd, h1, rfl, h2, h3, h4, h5, h⟩))))))))))⟩
end AMW
theorem am_rgd {x : Int} (h : (decide (-2147483648 ≤ x) && decide (x ≤ 2147483647)) = true) : am_rg x := by
  simpa [am_rg] using h
theorem am_rld {x : Int} (h : (decide (-9223372036854775808 ≤ x) && decide (x ≤ 9223372036854775807)) = true) : am_rl x := by
  simpa [am_rl] using h
