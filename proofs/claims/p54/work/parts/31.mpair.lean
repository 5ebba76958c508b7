/-! ===== PHASE 2: mathematics on the machine of numbers. Pairs of letters ===== -/
/-- a sum -/
def vs (f : Int → Int) : Nat → Int
  | 0 => 0
  | n + 1 => vs f n + f (n : Int)
theorem vs_bd {f : Int → Int} {lo hi : Int} : ∀ (n : Nat), (∀ i : Int, 0 ≤ i → i < n → lo ≤ f i ∧ f i ≤ hi) → lo * n ≤ vs f n ∧ vs f n ≤ hi * n
  | 0, _ => by simp [vs]
  | n + 1, h => by
    have h1 := vs_bd n (fun i h1 h2 => h i h1 (by omega))
    have h2 := h n (by omega) (by omega)
    unfold vs
    have e1 : lo * ((n + 1 : Nat) : Int) = lo * n + lo := by rw [Int.natCast_add, Int.mul_add]; simp
    have e2 : hi * ((n + 1 : Nat) : Int) = hi * n + hi := by rw [Int.natCast_add, Int.mul_add]; simp
    rw [e1, e2]
    omega
theorem vs_cg {f g : Int → Int} : ∀ (n : Nat), (∀ i : Int, 0 ≤ i → i < n → f i = g i) → vs f n = vs g n
  | 0, _ => rfl
  | n + 1, h => by
    unfold vs
    rw [vs_cg n (fun i h1 h2 => h i h1 (by omega)), h n (by omega) (by omega)]
theorem vs_mono {f g : Int → Int} : ∀ (n : Nat), (∀ i : Int, 0 ≤ i → i < n → f i ≤ g i) → vs f n ≤ vs g n
  | 0, _ => by simp [vs]
  | n + 1, h => by
    have h1 := vs_mono n (fun i h1 h2 => h i h1 (by omega))
    have h2 := h n (by omega) (by omega)
    unfold vs
    omega
/-- what both sides hold: wides, insets, cap, corrections, lengths, spelling, how many words -/
abbrev vD : Type := (Int → Int) × (Int → Int) × Int × (Int → Int) × (Int → Int) × (Int → Int) × Int
def dW (D : vD) : Int → Int := D.1
def dS (D : vD) : Int → Int := D.2.1
def dC (D : vD) : Int := D.2.2.1
def dK (D : vD) : Int → Int := D.2.2.2.1
def dL (D : vD) : Int → Int := D.2.2.2.2.1
def dP (D : vD) : Int → Int := D.2.2.2.2.2.1
def dN (D : vD) : Int := D.2.2.2.2.2.2
/-- a letter that is told -/
def dk (D : vD) (a : Int) : Prop := 0 ≤ a ∧ a < 26 ∧ 0 < dW D a
/-- an alphabet's ranges -/
def dOA (D : vD) : Prop := 0 ≤ dC D ∧ dC D ≤ 30 ∧ (∀ a, 0 ≤ a → a < 26 → 0 ≤ dW D a ∧ dW D a ≤ 60) ∧ ∀ a, dk D a → ∀ i, 0 ≤ i → i < 12 → -1 ≤ dS D (12 * a + i) ∧ dS D (12 * a + i) ≤ 9
/-- the alphabet th of x, that of m -/
def dAx (D : vD) (m : vm_M) (th : Nat) : Prop := m th 2 = dC D ∧ (∀ a, 0 ≤ a → a < 26 → m (th + 1) a = dW D a) ∧ ∀ a, dk D a → ∀ i, 0 ≤ i → i < 12 → m (th + 2) (12 * a + i) = dS D (12 * a + i)
def dAm (D : vD) (m : vm_M) : Prop := m 96 3 = dC D ∧ (∀ a, 0 ≤ a → a < 26 → (vm_and (vm_shr (m 96 4) a) 1 = 1 ↔ 0 < dW D a)) ∧ (∀ a, dk D a → m 98 a = dW D a) ∧ ∀ a, dk D a → ∀ i, 0 ≤ i → i < 12 → m 99 (12 * a + i) = dS D (12 * a + i)
def vband (C r l d : Int) : Int := if r = -1 ∨ l = -1 then C else if C < r + d + l then C else if r + d + l < 0 then 0 else r + d + l
theorem vband_bd {C r l d : Int} (hC : 0 ≤ C) : 0 ≤ vband C r l d ∧ vband C r l d ≤ C := by
  unfold vband
  split
  · omega
  · split
    · omega
    · split <;> omega
theorem vband_mm {C r l d : Int} (hC : 0 ≤ C) (hr : ¬ r = -1) (hl : ¬ l = -1) : (if (if 0 < ((r + d) + l) then ((r + d) + l) else 0) < C then (if 0 < ((r + d) + l) then ((r + d) + l) else 0) else C) = vband C r l d := by
  unfold vband
  rw [if_neg (show ¬ (r = -1 ∨ l = -1) by omega)]
  by_cases h1 : 0 < (r + d) + l
  · rw [if_pos h1]
    repeat' split
    all_goals omega
  · rw [if_neg h1]
    repeat' split
    all_goals omega
/-- the bands of a pair, its optical gap -/
def vbd (D : vD) (a b d : Int) : Int → Int := fun i => vband (dC D) (dS D (12 * a + (6 + i))) (dS D (12 * b + i)) d
def vog (D : vD) (a b d : Int) : Int := vs (vbd D a b d) 6 / 6
theorem vbd_bd {D : vD} (hD : dOA D) {a b d : Int} (n : Nat) (hn : n ≤ 6) : 0 ≤ vs (vbd D a b d) n ∧ vs (vbd D a b d) n ≤ 180 := by
  have h := vs_bd (f := vbd D a b d) (lo := 0) (hi := 30) n (fun i _ _ => ⟨(vband_bd hD.1).1, Int.le_trans (vband_bd hD.1).2 hD.2.1⟩)
  omega
section XP
variable {D : vD} {th : Nat} {m : vm_M}
theorem sx_inset {Q : Int → vm_M → Prop} (h_th : vm_is th 0 = true) {a s i : Int} (ha : 0 ≤ a ∧ a < 26) (hs : s = 0 ∨ s = 1) (hi : 0 ≤ i ∧ i < 6) (h : Q (m (th + 2) (12 * a + (6 * s + i))) m) : vm_C 6 [vm_r th, vm_i a, vm_i s, vm_i i] m (vm_qi Q) := by
  refine ru0_insetOf_0 h_th ⟨by omega, fun c => ⟨by omega, ?_⟩, fun c => ⟨by omega, ?_⟩⟩
  · rw [show a * 12 + 0 + i = 12 * a + (6 * s + i) by omega]; exact h
  · rw [show a * 12 + 6 + i = 12 * a + (6 * s + i) by omega]; exact h
theorem sx_og6 {Q : Int → vm_M → Prop} (h_th : vm_is th 0 = true) (hD : dOA D) (hA : dAx D m th) {a b d : Int} (ha : dk D a) (hb : dk D b) (hd : -1000 ≤ d ∧ d ≤ 1000) (h : Q (vog D a b d) m) : ∀ (n j : Nat) (w6 w7 : Option vm_V), j + n = 6 → ku0_opticalGap_6 th a b d (vs (vbd D a b d) j) j w6 w7 m Q := by
  intro n
  induction n with
  | zero =>
    intro j w6 w7 hj
    have hb := vbd_bd hD (a := a) (b := b) (d := d) j (by omega)
    refine ru0_opticalGap_6 h_th ⟨fun _ => ⟨⟨hb.1, by decide⟩, ?_⟩, fun c => absurd (show (6 : Int) ≤ (j : Int) by omega) c⟩
    rw [show j = 6 by omega]
    exact h
  | succ n ih =>
    intro j w6 w7 hj
    have h1 := vbd_bd hD (a := a) (b := b) (d := d) j (by omega)
    have h2 := vband_bd (C := dC D) (r := dS D (12 * a + (6 + (j : Int)))) (l := dS D (12 * b + (j : Int))) (d := d) hD.1
    have hC := hD.2.1
    have hC0 := hD.1
    have hr := hD.2.2.2 a ha (6 + j) (by omega) (by omega)
    have hl := hD.2.2.2 b hb j (by omega) (by omega)
    have er := hA.2.2 a ha (6 + j) (by omega) (by omega)
    have el := hA.2.2 b hb j (by omega) (by omega)
    have hs : ∀ v w6 w7, v = vband (dC D) (dS D (12 * a + (6 + (j : Int)))) (dS D (12 * b + (j : Int))) d → ku0_opticalGap_6 th a b d (vs (vbd D a b d) j + v) ((j : Int) + 1) w6 w7 m Q := by
      intro v w6 w7 hv
      subst hv
      exact ih (j + 1) w6 w7 (by omega)
    refine ru0_opticalGap_6 h_th ⟨fun c => absurd c (by omega), fun _ => ?_⟩
    refine sx_inset h_th ⟨ha.1, ha.2.1⟩ (Or.inr rfl) (by omega) ?_
    refine sx_inset h_th ⟨hb.1, hb.2.1⟩ (Or.inl rfl) (by omega) ?_
    rw [show (6 * (1 : Int) + (j : Int)) = 6 + (j : Int) by omega, show (6 * (0 : Int) + (j : Int)) = (j : Int) by omega, er, el, hA.1]
    generalize dS D (12 * a + (6 + (j : Int))) = r at *
    generalize dS D (12 * b + (j : Int)) = l at *
    refine ⟨fun c => ⟨by omega, hs _ _ _ ?_⟩, fun c => ⟨fun c2 => ⟨?_, hs _ _ _ ?_⟩, fun c2 => ⟨by omega, hs _ _ _ ?_⟩⟩⟩
    · unfold vband; rw [if_pos (Or.inl c)]
    · rw [vband_mm hC0 c c2]; omega
    · exact vband_mm hC0 c c2
    · unfold vband; rw [if_pos (Or.inr (by omega))]
theorem sx_og {Q : Int → vm_M → Prop} (h_th : vm_is th 0 = true) (hD : dOA D) (hA : dAx D m th) {a b d : Int} (ha : dk D a) (hb : dk D b) (hd : -1000 ≤ d ∧ d ≤ 1000) (h : Q (vog D a b d) m) : vm_C 10 [vm_r th, vm_i a, vm_i b, vm_i d] m (vm_qi Q) :=
  ru0_opticalGap_0 h_th (sx_og6 h_th hD hA ha hb hd h 6 0 none none rfl)
end XP
