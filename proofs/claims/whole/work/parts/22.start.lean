/-! ===== the start: what the constructors leave ===== -/
def ic_w0 : ic_S := (0, fun _ _ => 0, fun _ _ => 0)
def ic_w1 : ic_S := (1, ic_zr ic_w0.2.1 1, ic_zm ic_w0.2.2 1)
def ic_w2 : ic_S := (gX8_init ic_w1 1).getD ic_w0
def ic_w3 : ic_S := (ic_w2.1 + 1, ic_zr ic_w2.2.1 (ic_w2.1 + 1), ic_zm ic_w2.2.2 (ic_w2.1 + 1))
def ic_w4 : ic_S := (gX9_init ic_w3 90).getD ic_w0
def ic_m0 : ic_M := ic_w4.2.2
theorem ic_getD {α : Type} {o : Option α} {d : α} (h : o.isSome = true) : o = some (o.getD d) := by
  cases o with
  | none => cases h
  | some a => rfl
theorem ic_w2_ok : gX8_init ic_w1 1 = some ic_w2 := ic_getD (by decide +kernel)
theorem ic_w2n : ic_w2.1 = 89 := by decide +kernel
theorem ic_w4_ok : gX9_init ic_w3 90 = some ic_w4 := ic_getD (by decide +kernel)
theorem ic_w4n : ic_w4.1 = 106 := by decide +kernel
