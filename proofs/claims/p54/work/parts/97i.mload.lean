/-! ===== the model loads a setup ===== -/
/-- the first v places from o on of a are those of b -/
def vCy (m : vm_M) (a b : Nat) (o v : Int) (m1 : vm_M) : Prop := (∀ k i, k ≠ a → m1 k i = m k i) ∧ ∀ i, m1 a i = if o ≤ i ∧ i < o + v then m b (i - o) else m a i
/-- the first v places of a are 0 -/
def vZr (m : vm_M) (a : Nat) (v : Int) (m1 : vm_M) : Prop := (∀ k i, k ≠ a → m1 k i = m k i) ∧ ∀ i, m1 a i = if 0 ≤ i ∧ i < v then 0 else m a i
section LM
variable {D : vD} {E : Int → Int} {z : vZs} {s : vPS} {m m' m1 : vm_M} {Q : Int → vm_M → Prop}
theorem vCy.nil {a b : Nat} {o : Int} : vCy m a b o 0 m := ⟨fun _ _ _ => rfl, fun i => by rw [if_neg (by omega)]⟩
theorem vZr.nil {a : Nat} : vZr m a 0 m := ⟨fun _ _ _ => rfl, fun i => by rw [if_neg (by omega)]⟩
theorem vCy.nxt {a b : Nat} {o v w : Int} (h : vCy m a b o v m1) (hb : b ≠ a) (hv : 0 ≤ v) (hw : w = o + v) : vCy m a b o (v + 1) (vm_st m1 a w (m1 b v)) := by
  subst hw
  refine ⟨fun k i hk => by rw [vst_k hk]; exact h.1 k i hk, fun i => ?_⟩
  rw [vst_if, h.1 b v hb, h.2]
  by_cases q : i = o + v
  · rw [if_pos q, if_pos (by omega), q, show o + v - o = v by omega]
  · rw [if_neg q]
    by_cases p : o ≤ i ∧ i < o + v
    · rw [if_pos p, if_pos (by omega)]
    · rw [if_neg p, if_neg (by omega)]
theorem vZr.nxt {a : Nat} {v : Int} (h : vZr m a v m1) (hv : 0 ≤ v) : vZr m a (v + 1) (vm_st m1 a v 0) := by
  refine ⟨fun k i hk => by rw [vst_k hk]; exact h.1 k i hk, fun i => ?_⟩
  rw [vst_if, h.2]
  by_cases q : i = v
  · rw [if_pos q, if_pos (by omega)]
  · rw [if_neg q]
    by_cases p : 0 ≤ i ∧ i < v
    · rw [if_pos p, if_pos (by omega)]
    · rw [if_neg p, if_neg (by omega)]
end LM
