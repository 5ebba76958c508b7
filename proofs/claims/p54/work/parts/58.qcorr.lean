/-! ===== the best correction ===== -/
def yof (D : vD) (a b g p : Int) (v : Int) : Int := if g ≤ vog D a b (vcd1 p v) then vog D a b (vcd1 p v) - g else g - vog D a b (vcd1 p v)
def yab (v : Int) : Int := if 0 ≤ v then v else 0 - v
/-- better or as good: off, then how great, then below -/
def yle (f : Int → Int) (b v : Int) : Prop := f b < f v ∨ (f b = f v ∧ (yab b < yab v ∨ (yab b = yab v ∧ b ≤ v)))
theorem yle_a {f : Int → Int} {b c : Int} (h1 : yle f b c) (h2 : yle f c b) : b = c := by
  unfold yle at h1 h2
  omega
theorem yle_r {f : Int → Int} {b : Int} : yle f b b := by unfold yle; omega
theorem yle_t {f : Int → Int} {a b c : Int} (h1 : yle f a b) (h2 : yle f b c) : yle f a c := by
  unfold yle at *
  omega
section QD
variable {D : vD} {E : Int → Int} {m m' : vm_M}
theorem vog_bd (hD : dOA D) {a b d : Int} : 0 ≤ vog D a b d ∧ vog D a b d ≤ 30 := by
  have h := vbd_bd hD (a := a) (b := b) (d := d) 6 (Nat.le_refl _)
  unfold vog
  omega
theorem s_bestCorrection (c : OC D E) (hX : XC D E m) {a b : Int} {Q : Int → vm_M → Prop} (h : ∀ B : Int, (dk D a ∧ dk D b → (-9 ≤ B ∧ B ≤ 9) ∧ ∀ v, -9 ≤ v → v ≤ 9 → yle (yof D a b (E 3) (vpd D a b (E 3))) B v) → ∀ m', vfr vSX m m' → XC D E m' → Q (vif (dk D a ∧ dk D b) (B + 9) (-1)) m') : vm_C 147 [vm_r 0, vm_i a, vm_i b] m (vm_qi Q) := by
  have c9 := c
  obtain ⟨hD, hO, hE⟩ := c9
  have hC := hD.2.1
  have hG := hE.2.2.2.1
  -- the answer
  have hbest : ∃ B : Int, (-9 ≤ B ∧ B ≤ 9) ∧ ∀ v, -9 ≤ v → v ≤ 9 → yle (yof D a b (E 3) (vpd D a b (E 3))) B v := by
    have go : ∀ n : Nat, n ≤ 18 → ∃ B : Int, (-9 ≤ B ∧ B ≤ -9 + (n : Int)) ∧ ∀ v : Int, -9 ≤ v → v ≤ -9 + (n : Int) → yle (yof D a b (E 3) (vpd D a b (E 3))) B v := by
      intro n
      induction n with
      | zero => intro _; exact ⟨-9, ⟨by omega, by omega⟩, fun v v1 v2 => by rw [show v = -9 by omega]; exact yle_r⟩
      | succ n ih =>
        intro hn
        obtain ⟨B, hB, hv⟩ := ih (by omega)
        by_cases q : yle (yof D a b (E 3) (vpd D a b (E 3))) B (-9 + ((n + 1 : Nat) : Int))
        · exact ⟨B, ⟨hB.1, by omega⟩, fun v v1 v2 => by
            by_cases e : v = -9 + ((n + 1 : Nat) : Int)
            · rw [e]; exact q
            · exact hv v v1 (by omega)⟩
        · have q2 : yle (yof D a b (E 3) (vpd D a b (E 3))) (-9 + ((n + 1 : Nat) : Int)) B := by unfold yle at q ⊢; omega
          exact ⟨-9 + ((n + 1 : Nat) : Int), ⟨by omega, by omega⟩, fun v v1 v2 => by
            by_cases e : v = -9 + ((n + 1 : Nat) : Int)
            · rw [e]; exact yle_r
            · exact yle_t q2 (hv v v1 (by omega))⟩
    obtain ⟨B, h1, h2⟩ := go 18 (by decide)
    exact ⟨B, ⟨h1.1, by omega⟩, fun v v1 v2 => h2 v v1 (by omega)⟩
  obtain ⟨B, hBb, hB⟩ := hbest
  replace h := h B (fun _ => ⟨hBb, hB⟩)
  have hof : ∀ v, 0 ≤ yof D a b (E 3) (vpd D a b (E 3)) v ∧ yof D a b (E 3) (vpd D a b (E 3)) v ≤ 30 := fun v => by
    have := vog_bd hD (a := a) (b := b) (d := vcd1 (vpd D a b (E 3)) v)
    unfold yof
    split <;> omega
  have h := h m vfr.rf hX
  refine ru10_bestCorrection_0 (sx_knows rfl hX.1 (fun k => ⟨fun q => by omega, fun _ => sx_knows rfl hX.1 (fun k2 => ⟨fun _ => ?_, fun q => by omega⟩) (fun k2 => ⟨fun q => absurd rfl q, fun _ => ?_⟩)⟩) (fun k => ⟨fun _ => ?_, fun q => absurd rfl q⟩))
  · rw [vif_t ⟨k, k2⟩] at h
    have e3 : m 10 3 = E 3 := hX.2.2.1.2.2.2.1
    have hpd := vpd_ok hD k k2 hG.2
    rw [e3]
    refine sx_free rfl hD hX.1 k k2 hG.2 ⟨Int.le_refl _, hpd.1⟩ (sx_og rfl hD hX.1 k k2 ⟨by omega, by omega⟩ ?_)
    have hvb := vog_bd hD (a := a) (b := b) (d := vpd D a b (E 3))
    refine ⟨by omega, ?_⟩
    have e0 : (if 0 ≤ vog D a b (vpd D a b (E 3)) - E 3 then vog D a b (vpd D a b (E 3)) - E 3 else 0 - (vog D a b (vpd D a b (E 3)) - E 3)) = yof D a b (E 3) (vpd D a b (E 3)) 0 := by
      unfold yof
      rw [show vcd1 (vpd D a b (E 3)) 0 = vpd D a b (E 3) by unfold vcd1; rw [Int.add_zero, if_pos hpd.1]]
      repeat' split
      all_goals omega
    rw [e0]
    have go : ∀ (n : Nat) (v best : Int) (w8 : Option vm_V), v + n = 10 → -9 ≤ v → (-9 ≤ best ∧ best ≤ 9 ∧ (best < v ∨ best = 0)) → (∀ x, (-9 ≤ x ∧ x < v) ∨ x = 0 → yle (yof D a b (E 3) (vpd D a b (E 3))) best x) → ku10_bestCorrection_73 a b (E 3) (vpd D a b (E 3)) best (yof D a b (E 3) (vpd D a b (E 3)) best) v w8 m Q := by
      intro n
      induction n with
      | zero =>
        intro v best w8 hn hv hb hx
        have : best = B := yle_a (hx B (Or.inl ⟨hBb.1, by omega⟩)) (hB best hb.1 hb.2.1)
        rw [this]
        exact ru10_bestCorrection_73 ⟨fun _ => ⟨by omega, h⟩, fun q => by omega⟩
      | succ n ih =>
        intro v best w8 hn hv hb hx
        have h1 := hof v
        have h2 := hof best
        refine ru10_bestCorrection_73 ⟨fun q => by omega, fun _ => ⟨by omega, ?_⟩⟩
        have ev : (if (-9 : Int) < vpd D a b (E 3) + v then vpd D a b (E 3) + v else -9) = vcd1 (vpd D a b (E 3)) v := by
          unfold vcd1
          repeat' split
          all_goals omega
        have hcb := vcd1_bd (p := vpd D a b (E 3)) (k := v) (by omega) (by omega)
        rw [ev]
        refine sx_og rfl hD hX.1 k k2 ⟨by omega, by omega⟩ ?_
        have eo : (if 0 ≤ vog D a b (vcd1 (vpd D a b (E 3)) v) - E 3 then vog D a b (vcd1 (vpd D a b (E 3)) v) - E 3 else 0 - (vog D a b (vcd1 (vpd D a b (E 3)) v) - E 3)) = yof D a b (E 3) (vpd D a b (E 3)) v := by
          unfold yof
          repeat' split
          all_goals omega
        have hvb2 := vog_bd hD (a := a) (b := b) (d := vcd1 (vpd D a b (E 3)) v)
        rw [eo]
        have new : yle (yof D a b (E 3) (vpd D a b (E 3))) v best → ∀ w8, ku10_bestCorrection_73 a b (E 3) (vpd D a b (E 3)) v (yof D a b (E 3) (vpd D a b (E 3)) v) (v + 1) w8 m Q := fun q w8 => ih (v + 1) v w8 (by omega) (by omega) ⟨hv, by omega, by omega⟩ (fun x hx2 => by
          by_cases e : x = v
          · rw [e]; exact yle_r
          · exact yle_t q (hx x (by omega)))
        have old : yle (yof D a b (E 3) (vpd D a b (E 3))) best v → ∀ w8, ku10_bestCorrection_73 a b (E 3) (vpd D a b (E 3)) best (yof D a b (E 3) (vpd D a b (E 3)) best) (v + 1) w8 m Q := fun q w8 => ih (v + 1) best w8 (by omega) (by omega) ⟨hb.1, hb.2.1, by omega⟩ (fun x hx2 => by
          by_cases e : x = v
          · rw [e]; exact q
          · exact hx x (by omega))
        have eb : ∀ z : Int, (if 0 ≤ z then z else 0 - z) = yab z := fun z => rfl
        refine ⟨by omega, fun q => ⟨by omega, new (Or.inl q) _⟩, fun q => ⟨fun q2 => ⟨by omega, old (Or.inl (by omega)) _⟩, fun q2 => ⟨by omega, ?_⟩⟩⟩
        rw [eb, eb]
        refine ⟨fun q3 => ⟨by omega, old ?_ _⟩, fun q3 => ⟨by omega, new ?_ _⟩⟩
        · refine Or.inr ⟨by omega, ?_⟩
          by_cases e : yab best = yab v
          · right
            refine ⟨e, ?_⟩
            rcases Int.lt_or_le v best with d | d
            · -- then v is -best, and best came before v: not so, for best is 0 or was tried
              exfalso
              by_cases z0 : best = 0
              · rw [z0] at e d
                unfold yab at e
                rw [if_pos (Int.le_refl 0)] at e
                split at e <;> omega
              · omega
            · exact d
          · left; omega
        · exact Or.inr ⟨by omega, Or.inl (by omega)⟩
    exact go 19 (-9) 0 none (by omega) (by omega) ⟨by decide, by decide, Or.inr rfl⟩ (fun x hx => by rw [show x = 0 by omega]; exact yle_r)
  · rw [vif_f (fun q => k2 q.2)] at h; exact h
  · rw [vif_f (fun q => k q.1)] at h; exact h
end QD
