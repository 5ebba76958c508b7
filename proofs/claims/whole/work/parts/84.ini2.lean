def vm_inA (m : vm_M) : Bool := decide (m 3 2 = 10) && decide (m 96 3 = 10) && decide (m 3 3 = 1) && decide (m 96 4 = 1) && decide (m 98 0 = 10) && (List.range 26).all (fun a => decide (m 4 (a : Int) = if a = 0 then 10 else 0)) && (List.range 12).all (fun i => decide (m 5 (i : Int) = 1) && decide (m 99 (i : Int) = 1))
def vm_inK (m : vm_M) : Bool := (List.range 676).all (fun k => decide (m 11 (k : Int) = 0) && decide (m 100 (9 + (k : Int)) = 0))
theorem vm_inA_ok : vm_inA vm_mF = true := by decide +kernel
theorem vm_inK_ok : vm_inK vm_mF = true := by decide +kernel
