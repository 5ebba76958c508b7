/-! ===== the model's next token ===== -/
section TN
variable {D : vD} {E : Int → Int} {z : vZs} {m m' : vm_M}
/-- kinds that are no run of letters -/
theorem TKm_mk {p F e c kd : Int} (h27 : m 96 27 = F) (h26 : m 96 26 = e) (h28 : m 96 28 = c) (hF : tF (zb z) (zn z) p = F) (he : tE0 (zb z) (zn z) p = e) (hk : tKd (zb z) (zn z) p = kd) (hc : (kd = 0 ∧ c = 0) ∨ (kd = 2 ∧ c = 3) ∨ (kd = 3 ∧ c = 4) ∨ (kd = 4 ∧ c = 5)) (hn : c = 3 → m 96 30 = tN (zb z) (zn z) p) : TKm z p m := by
  refine ⟨by rw [h27, hF], by rw [h26, he], ?_, ?_, ?_, ?_, ?_, ?_, ?_⟩
  · rw [h28, hk]; omega
  · rw [h28, hk]; exact ⟨fun x => (by omega : False).elim, fun x => (by have := x.1; omega : False).elim⟩
  · rw [h28, hk]; omega
  · rw [h28, hk]; omega
  · rw [h28, hk]; omega
  · rw [h28]; exact fun x => (by omega : False).elim
  · rw [h28]; exact hn
end TN
