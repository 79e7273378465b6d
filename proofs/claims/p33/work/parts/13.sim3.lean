def tb_throk (o k : Nat) (v : Nat × Nat) : Bool := tb_at v.2 (.classLink (tb_cn o) k (tb_ex v.1)) && Nat.blt v.1 3
theorem tf_thr : tb_thrL.all (fun q => q.2.all (fun r => tb_throk q.1 r.1 r.2)) = true := by decide +kernel
abbrev tb_exn : List String := ["java/lang/RuntimeException", "java/lang/Exception"]
def tb_thok (o ic E : Nat) : Bool := Nat.blt E 3 && (vx_atS (tb_cn o) ic (tb_ex E) tb_exn).all (fun w => vx_ot w && (match goodWord w, w with
  | true, w => decide (w ∈ am_GL)
  | false, .castable a b => decide ((a, b) ∈ tb_cast)
  | false, .declares x => decide (x ∈ tb_decl)
  | _, _ => false))
theorem tf_thc : tb_thcL.all (fun q => q.2.all (fun r => tb_thok q.1 r.1 r.2)) = true := by decide +kernel
theorem tf_exi : [0, 1, 2].all (fun E => decide (Cond.initialized (tb_ex E) ∈ am_GL) && Bundle.fit (tb_ex E)) = true := by decide +kernel
theorem tf_exf : tb_exn.all Bundle.fit = true := by decide +kernel
