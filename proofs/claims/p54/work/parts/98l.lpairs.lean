/-! ===== gaps and distances of two letters ===== -/
theorem vband_mono {C r l d : Int} (hC : 0 ≤ C) : vband C r l d ≤ vband C r l (d + 1) := by
  unfold vband
  (repeat' split) <;> omega
section PM
variable {D : vD} {E : Int → Int} {a b : Int}
theorem vog_up (hD : dOA D) {d : Int} : vog D a b d ≤ vog D a b (d + 1) := by
  have := vs_mono (f := vbd D a b d) (g := vbd D a b (d + 1)) 6 (fun i _ _ => vband_mono hD.1)
  unfold vog
  omega
theorem vog_mono (hD : dOA D) {d : Int} : ∀ n : Nat, vog D a b d ≤ vog D a b (d + n)
  | 0 => by rw [show d + ((0 : Nat) : Int) = d by omega]; exact Int.le_refl _
  | n + 1 => by
    have h := vog_up (a := a) (b := b) hD (d := d + n)
    rw [show d + ((n + 1 : Nat) : Int) = d + n + 1 by omega]
    exact Int.le_trans (vog_mono hD n) h
theorem vog_le2 (hD : dOA D) {d e : Int} (h : d ≤ e) : vog D a b d ≤ vog D a b e := by
  have := vog_mono (a := a) (b := b) hD (d := d) (e - d).toNat
  rwa [show d + ((e - d).toNat : Int) = e by omega] at this
theorem vog_cp (hD : dOA D) {d : Int} : 0 ≤ vog D a b d ∧ vog D a b d ≤ dC D := by
  have := vs_bd (f := vbd D a b d) (lo := 0) (hi := dC D) 6 (fun i _ _ => vband_bd hD.1)
  unfold vog
  omega
theorem lvpd_mono (hD : dOA D) (ha : dk D a) (hb : dk D b) {g g' : Int} (h : g ≤ g') (hg : g' ≤ dC D) : vpd D a b g ≤ vpd D a b g' := by
  obtain ⟨a1, a2, a3, a4⟩ := vpd_ok hD ha hb (show g ≤ dC D by omega)
  obtain ⟨b1, b2, b3, b4⟩ := vpd_ok hD ha hb hg
  by_cases q : vpd D a b g ≤ vpd D a b g'
  · exact q
  · have := a4 _ b1 (by omega)
    omega
theorem vcd_mono (hD : dOA D) (ha : dk D a) (hb : dk D b) {g g' : Int} (h : g ≤ g') (hg : g' ≤ dC D) : vcd D a b g ≤ vcd D a b g' := by
  have := lvpd_mono hD ha hb h hg
  unfold vcd vcd1
  (repeat' split) <;> omega
/-- a search from the least distance on ends there -/
theorem vpd_at (hD : dOA D) (ha : dk D a) (hb : dk D b) {g d : Int} (hg : g ≤ dC D) (hd : -9 ≤ d ∧ d ≤ vpd D a b g) : (g ≤ vog D a b d ↔ d = vpd D a b g) := by
  obtain ⟨a1, a2, a3, a4⟩ := vpd_ok hD ha hb hg
  refine ⟨fun h => ?_, fun h => by rw [h]; exact a3⟩
  by_cases q : d = vpd D a b g
  · exact q
  · have := a4 d hd.1 (by omega)
    omega
theorem vex_ok {g G : Int} : ∀ n : Nat, ((∀ k : Nat, k < n → ¬ (dk D ((k : Int) / 26) ∧ dk D ((k : Int) % 26))) ∧ (vex D g G n).1 = -2) ∨ (∃ k : Nat, (k < n ∧ dk D ((k : Int) / 26) ∧ dk D ((k : Int) % 26)) ∧ vex D g G n = ((k : Int), vcd D ((k : Int) / 26) ((k : Int) % 26) g) ∧ ∀ j : Nat, j < n → dk D ((j : Int) / 26) → dk D ((j : Int) % 26) → (G = 0 → vcd D ((k : Int) / 26) ((k : Int) % 26) g ≤ vcd D ((j : Int) / 26) ((j : Int) % 26) g) ∧ (¬ G = 0 → vcd D ((j : Int) / 26) ((j : Int) % 26) g ≤ vcd D ((k : Int) / 26) ((k : Int) % 26) g))
  | 0 => Or.inl ⟨fun k h => absurd h (by omega), rfl⟩
  | n + 1 => by
    by_cases q : dk D ((n : Int) / 26) ∧ dk D ((n : Int) % 26)
    · rcases vex_ok n with ⟨h1, h2⟩ | ⟨k, ⟨k1, k2, k3⟩, e, hm⟩
      · refine Or.inr ⟨n, ⟨by omega, q.1, q.2⟩, ?_, fun j hj d1 d2 => ?_⟩
        · show vif _ _ _ = _
          rw [vif_t ⟨q.1, q.2, Or.inl h2⟩]
        · by_cases e : j = n
          · subst e; exact ⟨fun _ => Int.le_refl _, fun _ => Int.le_refl _⟩
          · exact absurd ⟨d1, d2⟩ (h1 j (by omega))
      · by_cases c : (G = 0 ∧ vcd D ((n : Int) / 26) ((n : Int) % 26) g < (vex D g G n).2) ∨ (¬ G = 0 ∧ (vex D g G n).2 < vcd D ((n : Int) / 26) ((n : Int) % 26) g)
        · refine Or.inr ⟨n, ⟨by omega, q.1, q.2⟩, ?_, fun j hj d1 d2 => ?_⟩
          · show vif _ _ _ = _
            rw [vif_t ⟨q.1, q.2, Or.inr c⟩]
          · by_cases e9 : j = n
            · subst e9; exact ⟨fun _ => Int.le_refl _, fun _ => Int.le_refl _⟩
            · have := hm j (by omega) d1 d2
              rw [e] at c
              have c : (G = 0 ∧ vcd D ((n : Int) / 26) ((n : Int) % 26) g < vcd D ((k : Int) / 26) ((k : Int) % 26) g) ∨ (¬ G = 0 ∧ vcd D ((k : Int) / 26) ((k : Int) % 26) g < vcd D ((n : Int) / 26) ((n : Int) % 26) g) := c
              refine ⟨fun g0 => ?_, fun g0 => ?_⟩
              · have := this.1 g0; omega
              · have := this.2 g0; omega
        · refine Or.inr ⟨k, ⟨by omega, k2, k3⟩, ?_, fun j hj d1 d2 => ?_⟩
          · show vif _ _ _ = _
            rw [vif_f (fun z => ?_)]
            · exact e
            · rcases z.2.2 with z | z
              · rw [e] at z
                have z : (k : Int) = -2 := z
                omega
              · exact c z
          · by_cases e9 : j = n
            · subst e9
              rw [e] at c
              have c : ¬ ((G = 0 ∧ vcd D ((j : Int) / 26) ((j : Int) % 26) g < vcd D ((k : Int) / 26) ((k : Int) % 26) g) ∨ (¬ G = 0 ∧ vcd D ((k : Int) / 26) ((k : Int) % 26) g < vcd D ((j : Int) / 26) ((j : Int) % 26) g)) := c
              refine ⟨fun g0 => ?_, fun g0 => ?_⟩ <;> omega
            · exact hm j (by omega) d1 d2
    · have e : vex D g G (n + 1) = vex D g G n := by
        show vif _ _ _ = _
        rw [vif_f (fun z => q ⟨z.1, z.2.1⟩)]
      rw [e]
      rcases vex_ok n with ⟨h1, h2⟩ | ⟨k, ⟨k1, k2, k3⟩, e, hm⟩
      · refine Or.inl ⟨fun k hk => ?_, h2⟩
        by_cases e : k = n
        · subst e; exact q
        · exact h1 k (by omega)
      · refine Or.inr ⟨k, ⟨by omega, k2, k3⟩, e, fun j hj d1 d2 => ?_⟩
        by_cases e : j = n
        · subst e; exact absurd ⟨d1, d2⟩ q
        · exact hm j (by omega) d1 d2
theorem vex_is (ha : dk D a) (hb : dk D b) {g : Int} (G : Int) : ∃ k : Int, (0 ≤ k ∧ k < 676) ∧ dk D (k / 26) ∧ dk D (k % 26) ∧ (vex D g G 676).1 = k ∧ (G = 0 → vcd D (k / 26) (k % 26) g ≤ vcd D a b g) ∧ (¬ G = 0 → vcd D a b g ≤ vcd D (k / 26) (k % 26) g) := by
  have a1 := ha.1
  have a2 := ha.2.1
  have b1 := hb.1
  have b2 := hb.2.1
  have e1 : (((26 * a + b).toNat : Nat) : Int) / 26 = a := by omega
  have e2 : (((26 * a + b).toNat : Nat) : Int) % 26 = b := by omega
  rcases vex_ok (D := D) (g := g) (G := G) 676 with ⟨h1, h2⟩ | ⟨k, ⟨k1, k2, k3⟩, e, hm⟩
  · exact absurd ⟨by rw [e1]; exact ha, by rw [e2]; exact hb⟩ (h1 (26 * a + b).toNat (by omega))
  · have := hm (26 * a + b).toNat (by omega) (by rw [e1]; exact ha) (by rw [e2]; exact hb)
    rw [e1, e2] at this
    exact ⟨k, ⟨by omega, by omega⟩, k2, k3, by rw [e], this.1, this.2⟩
/-- the corrections in the order of their trials -/
def lcc (k : Nat) : Int := if k % 2 = 0 then ((k / 2 : Nat) : Int) else -(((k + 1) / 2 : Nat) : Int)
/-- the best of the first k -/
def lcb (f : Int → Int) (k : Nat) (off found : Int) : Prop := (k = 0 ∧ off = 100 ∧ found = 0) ∨ (∃ j, j < k ∧ found = lcc j ∧ off = f found ∧ ∀ i, i < k → yle f found (lcc i))
theorem lcb_s {f : Int → Int} (hf : ∀ v, f v < 100) {k : Nat} {off found : Int} (h : lcb f k off found) : lcb f (k + 1) (if f (lcc k) < off then f (lcc k) else off) (if f (lcc k) < off then lcc k else found) := by
  rcases h with ⟨h1, h2, h3⟩ | ⟨j, h1, h2, h3, h4⟩
  · have := hf (lcc k)
    rw [if_pos (by omega), if_pos (by omega)]
    refine Or.inr ⟨k, by omega, rfl, rfl, fun i hi => ?_⟩
    rw [show i = k by omega]
    exact yle_r
  · by_cases q : f (lcc k) < off
    · rw [if_pos q, if_pos q]
      refine Or.inr ⟨k, by omega, rfl, rfl, fun i hi => ?_⟩
      by_cases e : i = k
      · rw [e]; exact yle_r
      · have := h4 i (by omega)
        unfold yle at this
        exact Or.inl (by omega)
    · rw [if_neg q, if_neg q]
      refine Or.inr ⟨j, by omega, h2, h3, fun i hi => ?_⟩
      by_cases e : i = k
      · rw [e]
        have o : yab found < yab (lcc k) ∨ (yab found = yab (lcc k) ∧ found ≤ lcc k) := by
          rw [h2]
          unfold yab lcc
          (repeat' split) <;> omega
        unfold yle
        omega
      · exact h4 i (by omega)
theorem lcb_e {f : Int → Int} {off found B : Int} (h : lcb f 19 off found) (hB : -9 ≤ B ∧ B ≤ 9) (hm : ∀ v, -9 ≤ v → v ≤ 9 → yle f B v) : B = found := by
  rcases h with ⟨h1, h2, h3⟩ | ⟨j, h1, h2, h3, h4⟩
  · omega
  · have hj : -9 ≤ lcc j ∧ lcc j ≤ 9 := by unfold lcc; split <;> omega
    refine yle_a (hm found (by omega) (by omega)) ?_
    have := h4 (if 0 ≤ B then (2 * B).toNat else (-2 * B - 1).toNat) (by split <;> omega)
    have e : lcc (if 0 ≤ B then (2 * B).toNat else (-2 * B - 1).toNat) = B := by
      unfold lcc
      (repeat' split) <;> omega
    rwa [e] at this
theorem zP_pos {z : vZs} {t : vTE} : 0 < zc (zP z t) := by
  show 0 < pc (zc z)
  unfold pc
  split <;> omega
theorem zP_top {z : vZs} {t : vTE} : zh (zP z t) (zc (zP z t) - 1) = t := by
  show pH (zc z) (zh z) t (pc (zc z) - 1) = t
  unfold pH pc
  by_cases q : zc z < 8
  · rw [if_pos q, if_pos q, if_pos (by omega)]
  · rw [if_neg q, if_neg q, if_pos (by omega)]
end PM
