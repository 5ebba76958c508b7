/-! ===== the model's parser: small steps ===== -/
/-- what the model's reader writes; and where it was wrong -/
def vMg (k : Nat) (i : Int) : Bool := (Nat.ble 111 k && Nat.ble k 114) || (Nat.beq k 96 && decide (26 ≤ i ∧ i ≤ 33))
def vMp (k : Nat) (i : Int) : Bool := vMg k i || (Nat.beq k 96 && decide (i = 2))
theorem vMg_n {k : Nat} {i : Int} (h : ¬ (111 ≤ k ∧ k ≤ 114)) (h2 : k = 96 → ¬ (26 ≤ i ∧ i ≤ 33)) : vMg k i = false := Bool.eq_false_iff.mpr (fun q => by
  unfold vMg at q
  simp only [Bool.or_eq_true, Bool.and_eq_true, decide_eq_true_eq] at q
  rcases q with q | q
  · exact h ⟨Nat.le_of_ble_eq_true q.1, Nat.le_of_ble_eq_true q.2⟩
  · exact h2 (vm_beq q.1) q.2)
theorem vMp_n {k : Nat} {i : Int} (h : ¬ (111 ≤ k ∧ k ≤ 114)) (h2 : k = 96 → i ≠ 2 ∧ ¬ (26 ≤ i ∧ i ≤ 33)) : vMp k i = false := Bool.eq_false_iff.mpr (fun q => by
  unfold vMp at q
  rw [vMg_n h (fun e => (h2 e).2)] at q
  simp only [Bool.false_or, Bool.and_eq_true, decide_eq_true_eq] at q
  exact (h2 (vm_beq q.1)).1 q.2)
theorem vMg_o {k : Nat} {i : Int} (h : 111 ≤ k ∧ k ≤ 114) : vMg k i = true := by
  unfold vMg
  rw [Nat.ble_eq_true_of_le h.1, Nat.ble_eq_true_of_le h.2]; rfl
theorem vMg_96 {i : Int} (h : 26 ≤ i ∧ i ≤ 33) : vMg 96 i = true := by
  unfold vMg
  rw [decide_eq_true h]; rfl
theorem vMg_p {k : Nat} {i : Int} (h : vMg k i = true) : vMp k i = true := by unfold vMp; rw [h]; rfl
theorem vMp_o {k : Nat} {i : Int} (h : 111 ≤ k ∧ k ≤ 114) : vMp k i = true := vMg_p (vMg_o h)
theorem vMg_f {m m' : vm_M} (h : vfr vMg m m') : vfr vMp m m' := h.sub (fun _ _ => vMg_p)
theorem vTo_Mp {m m' : vm_M} (h : vfr vTo m m') : vfr vMg m m' := h.sub (fun k i hk => by
  unfold vTo at hk
  simp only [Bool.and_eq_true, decide_eq_true_eq] at hk
  rw [vm_beq hk.1]
  exact vMg_96 (by omega))
/-- what the model's new setup holds; told: W, corrections: K -/
def MA (U : Int → Prop) (g c : Int) (W K : Int → Int) (s : vPS) (m : vm_M) : Prop := (0 < g → m 96 32 = pC s) ∧ (∀ a, 0 ≤ a → a < 26 → (vm_and (vm_shr (m 96 33) a) 1 = 1 ↔ 0 < W a)) ∧ (∀ a, 0 ≤ a → a < 26 → 0 < W a → m 112 a = W a) ∧ (∀ i, U i → m 113 i = pS s i) ∧ (∀ k, 0 ≤ k → k < c → m 111 k = pE s k) ∧ ∀ k, 0 ≤ k → k < 676 → m 114 k = K k
/-- all is well so far -/
def PM (z : vZs) (m0 : vm_M) (U : Int → Prop) (g c : Int) (W K : Int → Int) (s : vPS) (m : vm_M) : Prop := vfr vMg m0 m ∧ TKm z (pp s) m ∧ m 96 31 = 1 ∧ MA U g c W K s m
/-- it was wrong at e -/
def DD (m0 : vm_M) (e : Int) (m : vm_M) : Prop := vfr vMp m0 m ∧ m 96 31 = 0 ∧ m 96 2 = e
section MK
variable {D : vD} {E : Int → Int} {z : vZs} {m m' m0 : vm_M} {U : Int → Prop} {g c : Int} {W K : Int → Int} {s : vPS} {S : Nat → Int → Bool} {k : vPS → vRS} {R : vRS}
theorem MA.fr (h : vfr S m m') (hs : ∀ k i, 111 ≤ k ∧ k ≤ 114 → S k i = false) (h32 : S 96 32 = false) (h33 : S 96 33 = false) (hA : MA U g c W K s m) : MA U g c W K s m' := by
  obtain ⟨a1, a2, a3, a4, a5, a6⟩ := hA
  exact ⟨fun q => by rw [h _ _ h32]; exact a1 q, fun a x y => by rw [h _ _ h33]; exact a2 a x y, fun a x y w => by rw [h _ _ (hs _ _ (by omega))]; exact a3 a x y w, fun i u => by rw [h _ _ (hs _ _ (by omega))]; exact a4 i u, fun k x y => by rw [h _ _ (hs _ _ (by omega))]; exact a5 k x y, fun k x y => by rw [h _ _ (hs _ _ (by omega))]; exact a6 k x y⟩
theorem TKm.fr {p : Int} (h : vfr S m m') (hs : ∀ i, 26 ≤ i ∧ i ≤ 30 → S 96 i = false) (hK : TKm z p m) : TKm z p m' := by
  unfold TKm at hK ⊢
  rw [h 96 27 (hs _ (by omega)), h 96 26 (hs _ (by omega)), h 96 28 (hs _ (by omega)), h 96 29 (hs _ (by omega)), h 96 30 (hs _ (by omega))]
  exact hK
theorem PM.T (hT : MT z m0) (hP : PM z m0 U g c W K s m) : MT z m := hT.fr hP.1 (fun i => vMg_n (by omega) (by omega)) (vMg_n (by omega) (by omega))
end MK
