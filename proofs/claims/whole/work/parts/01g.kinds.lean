/-! Kinds of methods, checked. -/
theorem kA_all : (List.range 252).all (fun q => tOwn q == 13 || (!decide ((tMI q).2.2.2.2 < 2) || (q == 229 || (tC q).all (fun e => match e.2.1 with
  | .invokespecial k => (tInv (tOwn q) k).isNone
  | .invokestatic k => !decide (tInv (tOwn q) k = some 229)
  | _ => true)))) = true := by decide +kernel
theorem kB_all : (List.range 16).all (fun o => o == 13 || ((tInvL.getD o []).zip (tInvI.getD o [])).all (fun z => decide ((tMI z.1.2).2.2.2.2 < 3) && (!(tOwn z.1.2 == 13) && (z.2.2 == 0 || (tMI z.1.2).2.2.2.2 == 2)))) = true := by decide +kernel
theorem kP_all : (List.range 252).all (fun q => decide (tPar q ≤ tMl q) && (plainName (tY q).cls && (!((tMI q).2.2.2.2 == 1) || decide (tOwn q < 12)))) = true := by decide +kernel
