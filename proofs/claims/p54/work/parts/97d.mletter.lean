/-! ===== the model reads a letter ===== -/
/-- how many letters are told -/
def vtn (W : Int → Int) : Int := vs (fun a => if 0 < W a then 1 else 0) 26
theorem vtn_bd (W : Int → Int) : vtn W ≤ 26 := by
  have := vs_bd (f := fun a => if 0 < W a then 1 else 0) (lo := 0) (hi := 1) 26 (fun i _ _ => by split <;> decide)
  unfold vtn
  omega
theorem vtn_s {W W' : Int → Int} {a v : Int} (ha : 0 ≤ a ∧ a < 26) (hn : ¬ 0 < W a) (hv : 1 ≤ v) (hw : W' = fun i => if i = a then v else W i) : vtn W' = vtn W + 1 := by
  have hu := vs_upd (f := fun i => if 0 < W i then 1 else 0) (g := fun i => if 0 < W' i then 1 else 0) (a := a) ha.1 (if_neg hn) (if_pos (by rw [hw]; show 0 < (if a = a then v else W a); rw [if_pos rfl]; omega)) (fun i hi => by
    rw [hw]
    show (if 0 < (if i = a then v else W i) then (1 : Int) else 0) = if 0 < W i then 1 else 0
    rw [if_neg hi]) 26
  rw [if_pos (by omega)] at hu
  exact hu
section ML
variable {D : vD} {E : Int → Int} {z : vZs} {m m' m0 : vm_M} {U : Int → Prop} {g c : Int} {W K : Int → Int} {s : vPS} {k : vPS → vRS} {R : vRS} {Q : vm_M → Prop}
end ML
