/-! ===== the model reads a pair ===== -/
section MQ
variable {D : vD} {E : Int → Int} {z : vZs} {m m' m0 : vm_M} {U : Int → Prop} {g c : Int} {W K : Int → Int} {s : vPS} {k : vPS → vRS} {R : vRS} {Q : vm_M → Prop}
theorem padv_le (hZ : ZO D z) (hs : pOk z s) : pp s ≤ pp (padv z s) := by
  have h := tok_bd hs hZ.2.1
  show pp s ≤ tE0 (zb z) (zn z) (pp s)
  omega
theorem padv_lt (hZ : ZO D z) (hs : pOk z s) (h : tKd (zb z) (zn z) (pp s) = 1) : pp s < pp (padv z s) := by
  have h1 := tok_bd hs hZ.2.1
  have h2 := (tok_let hZ hs h).1
  show pp s < tE0 (zb z) (zn z) (pp s)
  omega
end MQ
