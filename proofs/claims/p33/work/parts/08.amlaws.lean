theorem am_F_mono {CC CC' : am_CCt} {d : am_D} {dep dep' cap : Nat} {scr : Option (Int × (Int → Int))} {Q Q' : am_Q} {QX QX' : am_X} {X Y : am_C → Prop} {c : am_C} (hdep : dep ≤ dep') (hC : ∀ y as M Q QX, CC y as M Q QX → CC' y as M Q QX) (hQ : ∀ r M, Q r M → Q' r M) (hQX : ∀ E M, QX E M → QX' E M) (hX : ∀ c, X c → Y c)
    (h : am_F CC d dep cap scr Q QX X c) : am_F CC' d dep' cap scr Q' QX' Y c := by
  obtain ⟨lv, ins, len, hsub, hcode, h⟩ := h
  refine ⟨lv, ins, len, hsub, hcode, ?_⟩
  rcases h with h | h | h | h | h | h | h | h | h | h | h | h
  · obtain ⟨P, pc', lv', st', M', h1, h2, h3⟩ := h
    exact Or.inl ⟨P, pc', lv', st', M', h1, h2, hX _ h3⟩
  · obtain ⟨P, b, t, st', h1, h2, h3, h4⟩ := h
    exact Or.inr (Or.inl ⟨P, b, t, st', h1, h2, fun hb => hX _ (h3 hb), fun hb => hX _ (h4 hb)⟩)
  · obtain ⟨dflt, lo, hi, offs, x, st', t, h1, h2, h3, h4, h5, h6⟩ := h
    refine Or.inr (Or.inr (Or.inl ⟨dflt, lo, hi, offs, x, st', t, h1, h2, h3, h4, fun q => hX _ (h5 q), fun j a b => ?_⟩))
    obtain ⟨off, t', g1, g2, g3⟩ := h6 j a b
    exact ⟨off, t', g1, g2, hX _ g3⟩
  · obtain ⟨dflt, ps, x, st', h1, h2, h3, h4, t, h5, h6⟩ := h
    exact Or.inr (Or.inr (Or.inr (Or.inl ⟨dflt, ps, x, st', h1, h2, h3, h4, t, h5, hX _ h6⟩)))
  · obtain ⟨i, a, rs, st', h1, h2, h3, h4, h5⟩ := h
    exact Or.inr (Or.inr (Or.inr (Or.inr (Or.inl ⟨i, a, rs, st', h1, h2, h3, h4, fun j r e1 e2 => hX _ (h5 j r e1 e2)⟩))))
  · obtain ⟨k, y, n, b, Qc, QXc, h1, h2, h3, h4, h5, h6, h7, h8, h9⟩ := h
    refine Or.inr (Or.inr (Or.inr (Or.inr (Or.inr (Or.inl ⟨k, y, n, b, Qc, QXc, h1, h2, h3, h4, h5, h6, hC _ _ _ _ _ h7, fun r M' q => hX _ (h8 r M' q), fun E M' q => ?_⟩)))))
    have g := h9 E M' q
    cases hh : d.2.2.2.2 c.2.1 E with
    | none => rw [hh] at g; exact hQX _ _ g
    | some z => rw [hh] at g; exact ⟨g.1, hX _ g.2⟩
  · obtain ⟨x, h1, h2, h3, h4⟩ := h
    exact Or.inr (Or.inr (Or.inr (Or.inr (Or.inr (Or.inr (Or.inl ⟨x, h1, h2, h3, hQ _ _ h4⟩))))))
  · obtain ⟨x, h1, h2, h3, h4⟩ := h
    exact Or.inr (Or.inr (Or.inr (Or.inr (Or.inr (Or.inr (Or.inr (Or.inl ⟨x, h1, h2, h3, hQ _ _ h4⟩)))))))
  · obtain ⟨x, h1, h2, h3, h4⟩ := h
    exact Or.inr (Or.inr (Or.inr (Or.inr (Or.inr (Or.inr (Or.inr (Or.inr (Or.inl ⟨x, h1, h2, h3, hQ _ _ h4⟩))))))))
  · obtain ⟨x, h1, h2, h3, h4⟩ := h
    exact Or.inr (Or.inr (Or.inr (Or.inr (Or.inr (Or.inr (Or.inr (Or.inr (Or.inr (Or.inl ⟨x, h1, h2, h3, hQ _ _ h4⟩)))))))))
  · obtain ⟨h1, h2, h3, h4⟩ := h
    exact Or.inr (Or.inr (Or.inr (Or.inr (Or.inr (Or.inr (Or.inr (Or.inr (Or.inr (Or.inr (Or.inl ⟨h1, h2, h3, hQ _ _ h4⟩))))))))))
  · obtain ⟨ik, is, ic, E, h1, h0, h2, h3, h4, h5, h6, h7, h8⟩ := h
    exact Or.inr (Or.inr (Or.inr (Or.inr (Or.inr (Or.inr (Or.inr (Or.inr (Or.inr (Or.inr (Or.inr ⟨ik, is, ic, E, h1, Nat.le_trans h0 hdep, h2, h3, h4, h5, h6, h7, hQX _ _ h8⟩))))))))))
theorem am_W_in {CC : am_CCt} {d : am_D} {dep cap : Nat} {scr : Option (Int × (Int → Int))} {Q : am_Q} {QX : am_X} {c : am_C} (h : am_F CC d dep cap scr Q QX (am_W CC d dep cap scr Q QX) c) : am_W CC d dep cap scr Q QX c := by
  intro X hX
  exact hX _ (am_F_mono (Nat.le_refl _) (fun _ _ _ _ _ h => h) (fun _ _ h => h) (fun _ _ h => h) (fun c' hc => hc X hX) h)
theorem am_W_mono' {CC CC' : am_CCt} {d : am_D} {dep dep' cap : Nat} {scr : Option (Int × (Int → Int))} {Q Q' : am_Q} {QX QX' : am_X} {c : am_C} (hdep : dep ≤ dep') (hC : ∀ y as M Q QX, CC y as M Q QX → CC' y as M Q QX) (hQ : ∀ r M, Q r M → Q' r M) (hQX : ∀ E M, QX E M → QX' E M) (h : am_W CC d dep cap scr Q QX c) : am_W CC' d dep' cap scr Q' QX' c :=
  h _ (fun _ hc => am_W_in (am_F_mono hdep hC hQ hQX (fun _ h => h) hc))
theorem am_W_mono {CC CC' : am_CCt} {d : am_D} {dep cap : Nat} {scr : Option (Int × (Int → Int))} {Q Q' : am_Q} {QX QX' : am_X} {c : am_C} (hC : ∀ y as M Q QX, CC y as M Q QX → CC' y as M Q QX) (hQ : ∀ r M, Q r M → Q' r M) (hQX : ∀ E M, QX E M → QX' E M) (h : am_W CC d dep cap scr Q QX c) : am_W CC' d dep cap scr Q' QX' c := am_W_mono' (Nat.le_refl _) hC hQ hQX h
/-- fewer locals known -/
theorem am_W_sub {CC : am_CCt} {d : am_D} {dep cap : Nat} {scr : Option (Int × (Int → Int))} {Q : am_Q} {QX : am_X} {b pc : Nat} {lv lv' : am_L} {st : List am_V} {M : am_M} (ks : List Nat) (hs : ks.filterMap (fun k => lv[k]?) = lv') (h : am_W CC d dep cap scr Q QX (b, pc, lv', st, M)) : am_W CC d dep cap scr Q QX (b, pc, lv, st, M) := by
  intro X hX
  refine hX _ ?_
  have key : ∀ c : am_C, am_W CC d dep cap scr Q QX c → am_F CC d dep cap scr Q QX X c := fun c hc => by
    have h1 : am_F CC d dep cap scr Q QX (am_W CC d dep cap scr Q QX) c := hc (fun c => am_F CC d dep cap scr Q QX (am_W CC d dep cap scr Q QX) c) (fun c h => am_F_mono (Nat.le_refl _) (fun _ _ _ _ _ h => h) (fun _ _ h => h) (fun _ _ h => h) (fun _ h => am_W_in h) h)
    exact am_F_mono (Nat.le_refl _) (fun _ _ _ _ _ h => h) (fun _ _ h => h) (fun _ _ h => h) (fun c' hc' => hc' X hX) h1
  obtain ⟨lv2, ins, len, hsub, h1, h2⟩ := key _ h
  refine ⟨lv2, ins, len, fun q hq => ?_, h1, h2⟩
  have h3 := hsub q hq
  change q ∈ lv' at h3
  rw [← hs] at h3
  obtain ⟨k, -, hk⟩ := List.mem_filterMap.mp h3
  exact List.mem_of_getElem? hk
theorem am_qx_mono {y : Nat} {QX QX' : am_X} (h : ∀ E M, QX E M → QX' E M) : ∀ E M, am_qx y QX E M → am_qx y QX' E M := fun E M q => ⟨q.1, h E M q.2⟩
theorem am_CC_mono : ∀ (n : Nat) {y : Nat} {as : List am_V} {M : am_M} {Q Q' : am_Q} {QX QX' : am_X}, (∀ r M, Q r M → Q' r M) → (∀ E M, QX E M → QX' E M) → am_CC n y as M Q QX → am_CC n y as M Q' QX'
  | 0, _, _, _, _, _, _, _, _, _, h => h
  | _ + 1, _, _, _, _, _, _, _, hQ, hX, h => ⟨h.1, am_W_mono (fun _ _ _ _ _ h => h) hQ (am_qx_mono hX) h.2⟩
/-- of a method that catches it doesn't matter what is said of its throwing -/
theorem am_CC_w : ∀ (n : Nat) {y : Nat} {as : List am_V} {M : am_M} {Q : am_Q} {QX QX' : am_X}, ¬ tb_thw y → am_CC n y as M Q QX → am_CC n y as M Q QX'
  | 0, _, _, _, _, _, _, _, h => h
  | _ + 1, _, _, _, _, _, _, hy, h => ⟨h.1, am_W_mono (fun _ _ _ _ _ h => h) (fun _ _ h => h) (fun _ _ q => absurd q.1 hy) h.2⟩
theorem am_CC_s : ∀ (n : Nat) {y : Nat} {as : List am_V} {M : am_M} {Q : am_Q} {QX : am_X}, am_CC n y as M Q QX → am_CC (n + 1) y as M Q QX
  | 0, _, _, _, _, _, h => h.elim
  | n + 1, _, _, _, _, _, h => ⟨h.1, am_W_mono' (Nat.le_succ n) (fun _ _ _ _ _ h => am_CC_s n h) (fun _ _ h => h) (fun _ _ h => h) h.2⟩
theorem am_CC_le {n m : Nat} (hnm : n ≤ m) {y : Nat} {as : List am_V} {M : am_M} {Q : am_Q} {QX : am_X} (h : am_CC n y as M Q QX) : am_CC m y as M Q QX := by
  induction hnm with
  | refl => exact h
  | step _ ih => exact am_CC_s _ ih
theorem am_F_or {CC : am_CCt} {d : am_D} {dep cap : Nat} {scr : Option (Int × (Int → Int))} {Q Q' : am_Q} {QX QX' : am_X} {X Y : am_C → Prop} {c : am_C}
    (hm : ∀ y as M Q Q' QX QX', (∀ r M, Q r M → Q' r M) → (∀ E M, QX E M → QX' E M) → CC y as M Q QX → CC y as M Q' QX')
    (ho : ∀ y as M Q Q' QX QX', CC y as M (fun r M => Q r M ∨ Q' r M) (fun E M => QX E M ∨ QX' E M) → CC y as M Q QX ∨ CC y as M Q' QX')
    (h : am_F CC d dep cap scr (fun r M => Q r M ∨ Q' r M) (fun E M => QX E M ∨ QX' E M) (fun c => X c ∨ Y c) c) : am_F CC d dep cap scr Q QX X c ∨ am_F CC d dep cap scr Q' QX' Y c := by
  obtain ⟨lv, ins, len, hsub, hcode, h⟩ := h
  have goL := fun z => (Or.inl ⟨lv, ins, len, hsub, hcode, z⟩ : am_F CC d dep cap scr Q QX X c ∨ am_F CC d dep cap scr Q' QX' Y c)
  have goR := fun z => (Or.inr ⟨lv, ins, len, hsub, hcode, z⟩ : am_F CC d dep cap scr Q QX X c ∨ am_F CC d dep cap scr Q' QX' Y c)
  rcases h with h | h | h | h | h | h | h | h | h | h | h | h
  · obtain ⟨P, pc', lv', st', M', h1, h2, h3 | h3⟩ := h
    · exact goL (Or.inl ⟨P, pc', lv', st', M', h1, h2, h3⟩)
    · exact goR (Or.inl ⟨P, pc', lv', st', M', h1, h2, h3⟩)
  · obtain ⟨P, b, t, st', h1, h2, h3, h4⟩ := h
    by_cases hb : b
    · rcases h3 hb with h3 | h3
      · exact goL (Or.inr (Or.inl ⟨P, b, t, st', h1, h2, fun _ => h3, fun q => absurd hb q⟩))
      · exact goR (Or.inr (Or.inl ⟨P, b, t, st', h1, h2, fun _ => h3, fun q => absurd hb q⟩))
    · rcases h4 hb with h3 | h3
      · exact goL (Or.inr (Or.inl ⟨P, b, t, st', h1, h2, fun q => absurd q hb, fun _ => h3⟩))
      · exact goR (Or.inr (Or.inl ⟨P, b, t, st', h1, h2, fun q => absurd q hb, fun _ => h3⟩))
  · obtain ⟨dflt, lo, hi, offs, x, st', t, h1, h2, h3, h4, h5, h6⟩ := h
    by_cases hb : x < lo ∨ hi < x
    · have no : ∀ j : Nat, x = lo + (j : Int) → ¬ x ≤ hi := fun j e q => by rcases hb with hb | hb <;> omega
      rcases h5 hb with g | g
      · exact goL (Or.inr (Or.inr (Or.inl ⟨dflt, lo, hi, offs, x, st', t, h1, h2, h3, h4, fun _ => g, fun j a b => absurd b (no j a)⟩)))
      · exact goR (Or.inr (Or.inr (Or.inl ⟨dflt, lo, hi, offs, x, st', t, h1, h2, h3, h4, fun _ => g, fun j a b => absurd b (no j a)⟩)))
    · obtain ⟨off, t', g1, g2, g3⟩ := h6 (x - lo).toNat (by omega) (by omega)
      have one : ∀ j : Nat, x = lo + (j : Int) → j = (x - lo).toNat := fun j e => by omega
      rcases g3 with g | g
      · exact goL (Or.inr (Or.inr (Or.inl ⟨dflt, lo, hi, offs, x, st', t, h1, h2, h3, h4, fun q => absurd q hb, fun j a b => by rw [one j a]; exact ⟨off, t', g1, g2, g⟩⟩)))
      · exact goR (Or.inr (Or.inr (Or.inl ⟨dflt, lo, hi, offs, x, st', t, h1, h2, h3, h4, fun q => absurd q hb, fun j a b => by rw [one j a]; exact ⟨off, t', g1, g2, g⟩⟩)))
  · obtain ⟨dflt, ps, x, st', h1, h2, h3, h4, t, h5, h6⟩ := h
    rcases h6 with h6 | h6
    · exact goL (Or.inr (Or.inr (Or.inr (Or.inl ⟨dflt, ps, x, st', h1, h2, h3, h4, t, h5, h6⟩))))
    · exact goR (Or.inr (Or.inr (Or.inr (Or.inl ⟨dflt, ps, x, st', h1, h2, h3, h4, t, h5, h6⟩))))
  · obtain ⟨i, a, rs, st', h1, h2, h3, h4, h5⟩ := h
    have hl : i.toNat < rs.length := by omega
    have e0 : rs[i.toNat]? = some rs[i.toNat] := List.getElem?_eq_getElem hl
    have one : ∀ (j r : Nat), rs[j]? = some r → i = (j : Int) → r = rs[i.toNat] := fun j r e1 e2 => by
      have e3 : j = i.toNat := by omega
      subst e3
      exact Option.some.inj (e1.symm.trans e0)
    rcases h5 i.toNat _ e0 (by omega) with g | g
    · exact goL (Or.inr (Or.inr (Or.inr (Or.inr (Or.inl ⟨i, a, rs, st', h1, h2, h3, h4, fun j r e1 e2 => by rw [one j r e1 e2]; exact g⟩)))))
    · exact goR (Or.inr (Or.inr (Or.inr (Or.inr (Or.inl ⟨i, a, rs, st', h1, h2, h3, h4, fun j r e1 e2 => by rw [one j r e1 e2]; exact g⟩)))))
  · obtain ⟨k, y, n, b, Qc, QXc, h1, h2, h3, h4, h5, h6, h7, h8, h9⟩ := h
    have h10 := hm y _ _ _ (fun r M' => X (c.1 + tb_cost y, c.2.1 + 3, lv, am_push r (c.2.2.2.1.drop n), M') ∨ Y (c.1 + tb_cost y, c.2.1 + 3, lv, am_push r (c.2.2.2.1.drop n), M')) _ (fun E M' => (match d.2.2.2.2 c.2.1 E with
        | none => QX E M'
        | some (i, np) => c.1 + 1 ≤ cap ∧ X (c.1 + 1, np, am_kl i lv, [], M')) ∨ (match d.2.2.2.2 c.2.1 E with
        | none => QX' E M'
        | some (i, np) => c.1 + 1 ≤ cap ∧ Y (c.1 + 1, np, am_kl i lv, [], M'))) h8 (fun E M' q => by
          have g := h9 E M' q
          cases hh : d.2.2.2.2 c.2.1 E with
          | none => rw [hh] at g; exact g
          | some z => rw [hh] at g; exact g.2.elim (fun q => Or.inl ⟨g.1, q⟩) (fun q => Or.inr ⟨g.1, q⟩)) h7
    rcases ho _ _ _ _ _ _ _ h10 with g | g
    · exact goL (Or.inr (Or.inr (Or.inr (Or.inr (Or.inr (Or.inl ⟨k, y, n, b, _, _, h1, h2, h3, h4, h5, h6, g, fun _ _ q => q, fun _ _ q => q⟩))))))
    · exact goR (Or.inr (Or.inr (Or.inr (Or.inr (Or.inr (Or.inl ⟨k, y, n, b, _, _, h1, h2, h3, h4, h5, h6, g, fun _ _ q => q, fun _ _ q => q⟩))))))
  · obtain ⟨x, h1, h2, h3, h4 | h4⟩ := h
    · exact goL (Or.inr (Or.inr (Or.inr (Or.inr (Or.inr (Or.inr (Or.inl ⟨x, h1, h2, h3, h4⟩)))))))
    · exact goR (Or.inr (Or.inr (Or.inr (Or.inr (Or.inr (Or.inr (Or.inl ⟨x, h1, h2, h3, h4⟩)))))))
  · obtain ⟨x, h1, h2, h3, h4 | h4⟩ := h
    · exact goL (Or.inr (Or.inr (Or.inr (Or.inr (Or.inr (Or.inr (Or.inr (Or.inl ⟨x, h1, h2, h3, h4⟩))))))))
    · exact goR (Or.inr (Or.inr (Or.inr (Or.inr (Or.inr (Or.inr (Or.inr (Or.inl ⟨x, h1, h2, h3, h4⟩))))))))
  · obtain ⟨x, h1, h2, h3, h4 | h4⟩ := h
    · exact goL (Or.inr (Or.inr (Or.inr (Or.inr (Or.inr (Or.inr (Or.inr (Or.inr (Or.inl ⟨x, h1, h2, h3, h4⟩)))))))))
    · exact goR (Or.inr (Or.inr (Or.inr (Or.inr (Or.inr (Or.inr (Or.inr (Or.inr (Or.inl ⟨x, h1, h2, h3, h4⟩)))))))))
  · obtain ⟨x, h1, h2, h3, h4 | h4⟩ := h
    · exact goL (Or.inr (Or.inr (Or.inr (Or.inr (Or.inr (Or.inr (Or.inr (Or.inr (Or.inr (Or.inl ⟨x, h1, h2, h3, h4⟩))))))))))
    · exact goR (Or.inr (Or.inr (Or.inr (Or.inr (Or.inr (Or.inr (Or.inr (Or.inr (Or.inr (Or.inl ⟨x, h1, h2, h3, h4⟩))))))))))
  · obtain ⟨h1, h2, h3, h4 | h4⟩ := h
    · exact goL (Or.inr (Or.inr (Or.inr (Or.inr (Or.inr (Or.inr (Or.inr (Or.inr (Or.inr (Or.inr (Or.inl ⟨h1, h2, h3, h4⟩)))))))))))
    · exact goR (Or.inr (Or.inr (Or.inr (Or.inr (Or.inr (Or.inr (Or.inr (Or.inr (Or.inr (Or.inr (Or.inl ⟨h1, h2, h3, h4⟩)))))))))))
  · obtain ⟨ik, is, ic, E, h1, h0, h2, h3, h4, h5, h6, h7, h8 | h8⟩ := h
    · exact goL (Or.inr (Or.inr (Or.inr (Or.inr (Or.inr (Or.inr (Or.inr (Or.inr (Or.inr (Or.inr (Or.inr ⟨ik, is, ic, E, h1, h0, h2, h3, h4, h5, h6, h7, h8⟩)))))))))))
    · exact goR (Or.inr (Or.inr (Or.inr (Or.inr (Or.inr (Or.inr (Or.inr (Or.inr (Or.inr (Or.inr (Or.inr ⟨ik, is, ic, E, h1, h0, h2, h3, h4, h5, h6, h7, h8⟩)))))))))))
theorem am_W_or {CC : am_CCt} {d : am_D} {dep cap : Nat} {scr : Option (Int × (Int → Int))} {Q Q' : am_Q} {QX QX' : am_X} {c : am_C}
    (hm : ∀ y as M Q Q' QX QX', (∀ r M, Q r M → Q' r M) → (∀ E M, QX E M → QX' E M) → CC y as M Q QX → CC y as M Q' QX')
    (ho : ∀ y as M Q Q' QX QX', CC y as M (fun r M => Q r M ∨ Q' r M) (fun E M => QX E M ∨ QX' E M) → CC y as M Q QX ∨ CC y as M Q' QX')
    (h : am_W CC d dep cap scr (fun r M => Q r M ∨ Q' r M) (fun E M => QX E M ∨ QX' E M) c) : am_W CC d dep cap scr Q QX c ∨ am_W CC d dep cap scr Q' QX' c :=
  h (fun c => am_W CC d dep cap scr Q QX c ∨ am_W CC d dep cap scr Q' QX' c) (fun _ hc => (am_F_or hm ho hc).elim (fun g => Or.inl (am_W_in g)) (fun g => Or.inr (am_W_in g)))
theorem am_CC_or : ∀ (n : Nat) (y : Nat) (as : List am_V) (M : am_M) (Q Q' : am_Q) (QX QX' : am_X), am_CC n y as M (fun r M => Q r M ∨ Q' r M) (fun E M => QX E M ∨ QX' E M) → am_CC n y as M Q QX ∨ am_CC n y as M Q' QX'
  | 0, _, _, _, _, _, _, _, h => h.elim
  | n + 1, _, _, _, _, _, _, _, h => Or.imp (fun z => ⟨h.1, z⟩) (fun z => ⟨h.1, z⟩) <| am_W_or (QX := am_qx _ _) (QX' := am_qx _ _) (fun _ _ _ _ _ _ _ h1 h2 h => am_CC_mono n h1 h2 h) (fun y as M Q Q' QX QX' h => am_CC_or n y as M Q Q' QX QX' h) (am_W_mono (fun _ _ _ _ _ h => h) (fun _ _ h => h) (fun _ _ q => q.2.elim (fun z => Or.inl ⟨q.1, z⟩) (fun z => Or.inr ⟨q.1, z⟩)) h.2)
/-- a call either always returns or always throws -/
theorem am_CC_split {n y : Nat} {as : List am_V} {M : am_M} {Q : am_Q} {QX : am_X} (h : am_CC n y as M Q QX) : am_CC n y as M Q (fun _ _ => False) ∨ am_CC n y as M (fun _ _ => False) QX :=
  am_CC_or n y as M Q (fun _ _ => False) (fun _ _ => False) QX (am_CC_mono n (fun _ _ h => Or.inl h) (fun _ _ h => Or.inr h) h)
