/-! ===== names ===== -/
theorem tpk_eq {b c : Int → Int} {f g : Int} : ∀ (k : Nat), (∀ i : Int, 0 ≤ i → i < k → b (f + i) = c (g + i)) → tpk b f k = tpk c g k
  | 0, _ => rfl
  | k + 1, h => by
    unfold tpk
    rw [tpk_eq k (fun i h1 h2 => h i h1 (by omega)), h k (by omega) (by omega)]
theorem tpk_inj {b c : Int → Int} {f g : Int} : ∀ (k : Nat), (∀ i, f ≤ i → i < f + k → 97 ≤ b i ∧ b i ≤ 122) → (∀ i, g ≤ i → i < g + k → 97 ≤ c i ∧ c i ≤ 122) → tpk b f k = tpk c g k → ∀ i : Int, 0 ≤ i → i < k → b (f + i) = c (g + i)
  | 0, _, _, _, i, h1, h2 => by omega
  | k + 1, hb, hc, he, i, h1, h2 => by
    unfold tpk at he
    have d1 := hb (f + k) (by omega) (by omega)
    have d2 := hc (g + k) (by omega) (by omega)
    by_cases q : i = k
    · rw [q]; omega
    · exact tpk_inj k (fun i a b => hb i a (by omega)) (fun i a b => hc i a (by omega)) (by omega) i h1 (by omega)
theorem tpk_len {b c : Int → Int} {f g : Int} {k l : Nat} (hkl : k < l) (hl : l ≤ 8) (hb : ∀ i, f ≤ i → i < f + k → 97 ≤ b i ∧ b i ≤ 122) (hc : ∀ i, g ≤ i → i < g + l → 97 ≤ c i ∧ c i ≤ 122) : tpk b f k < tpk c g l := by
  obtain ⟨u0, u1, u2, u3, u4, u5, u6, u7, u8, -⟩ := tpk_bd k hb
  obtain ⟨-, -, -, -, -, -, -, -, -, -, v1, v2, v3, v4, v5, v6, v7, v8⟩ := tpk_bd l hc
  have : l = 1 ∨ l = 2 ∨ l = 3 ∨ l = 4 ∨ l = 5 ∨ l = 6 ∨ l = 7 ∨ l = 8 := by omega
  rcases this with q | q | q | q | q | q | q | q
  · have := u1 (by omega); have := v1 (by omega); omega
  · have := u2 (by omega); have := v2 (by omega); omega
  · have := u3 (by omega); have := v3 (by omega); omega
  · have := u4 (by omega); have := v4 (by omega); omega
  · have := u5 (by omega); have := v5 (by omega); omega
  · have := u6 (by omega); have := v6 (by omega); omega
  · have := u7 (by omega); have := v7 (by omega); omega
  · have := u8 (by omega); have := v8 (by omega); omega
/-- the token behind p is the name packed as K -/
def tIs (b : Int → Int) (n p K : Int) : Prop := tKd b n p = 1 ∧ tE0 b n p - tF b n p ≤ 8 ∧ tW b n p = K
section NM
variable {D : vD} {E : Int → Int} {z : vZs} {m m' : vm_M}
/-- the bytes of a name are letters -/
theorem tok_let (hZ : ZO D z) {p : Int} (hp : 0 ≤ p ∧ p ≤ zn z) (hk : tKd (zb z) (zn z) p = 1) : tF (zb z) (zn z) p < tE0 (zb z) (zn z) p ∧ ∀ i, tF (zb z) (zn z) p ≤ i → i < tE0 (zb z) (zn z) p → 97 ≤ zb z i ∧ zb z i ≤ 122 := by
  have htk := tok_bd hp hZ.2.1
  have e0 : tK0 (zb z) (zn z) p = 1 := by
    unfold tKd at hk
    split at hk
    · omega
    · exact hk
  have k0 : tkd (tb (zb z) (zn z) (tF (zb z) (zn z) p)) = 1 := e0
  have hlt : tF (zb z) (zn z) p < zn z := by
    refine Decidable.byContradiction (fun x => ?_)
    unfold tb at k0
    rw [if_neg (by omega)] at k0
    exact absurd k0 (by decide)
  refine ⟨htk.2.2.2 hlt, fun i h1 h2 => ?_⟩
  unfold tb at k0
  rw [if_pos ⟨by omega, hlt⟩] at k0
  by_cases x : i = tF (zb z) (zn z) p
  · rw [x]; exact tkd_1 k0
  · have eE : tE0 (zb z) (zn z) p = tru (zb z) (zn z) 1 (zn z - (tF (zb z) (zn z) p + 1)).toNat (tF (zb z) (zn z) p + 1) := by
      conv => lhs; unfold tE0
      rw [if_pos hlt, e0, if_pos (Or.inl rfl)]
    have t := tru_bd (b := zb z) (n := zn z) (c := 1) (zn z - (tF (zb z) (zn z) p + 1)).toNat (tF (zb z) (zn z) p + 1) (by omega)
    rw [← eE] at t
    exact tkd_1 (t.2.2.1 i (by omega) h2)
theorem sx_isName {Q : Int → vm_M → Prop} (hZ : ZO D z) (hT : XT z m) {p : Int} (hp : 0 ≤ p ∧ p ≤ zn z) (hK : TKx z p m) {s1 l : Nat} {K : Int} (hs : 1000 ≤ s1 ∧ s1 < 1000 + vm_sN) (hl : vm_sn s1 = (l : Int)) (hl8 : l ≤ 8) (hc : ∀ i : Int, 0 ≤ i → i < 0 + l → 97 ≤ vm_sc s1 i ∧ vm_sc s1 i ≤ 122) (hpk : tpk (vm_sc s1) 0 l = K) (h1 : tIs (zb z) (zn z) p K → Q 1 m) (h0 : ¬ tIs (zb z) (zn z) p K → Q 0 m) : vm_C 90 [vm_r 20, vm_r s1] m (vm_qi Q) := by
  have hN := hZ.1
  obtain ⟨k1, k2, k3, k4⟩ := hK
  have htk := tok_bd hp hZ.2.1
  refine ru8_isName_0 ?_
  rw [k1, k2, k3, hl]
  refine ⟨fun q => h0 (fun x => q x.1), fun q => ⟨⟨by omega, hs⟩, fun ql => ?_, fun ql => h0 (fun x => ?_)⟩⟩
  · have qk := Decidable.not_not.mp q
    have hlet := (tok_let hZ hp qk).2
    have go : ∀ (k j : Nat), j + k = l → (∀ i : Int, 0 ≤ i → i < j → zb z (tF (zb z) (zn z) p + i) = vm_sc s1 (0 + i)) → ku8_isName_28 s1 j m Q := by
      intro k
      induction k with
      | zero =>
        intro j hj hall
        obtain rfl : j = l := by omega
        refine ru8_isName_28 ⟨hs, fun _ => h1 ⟨qk, by omega, ?_⟩, fun x => by omega⟩
        unfold tW
        rw [show (tE0 (zb z) (zn z) p - tF (zb z) (zn z) p).toNat = j by omega, tpk_eq j hall]
        exact hpk
      | succ k ih =>
        intro j hj hall
        refine ru8_isName_28 ⟨hs, fun x => by omega, fun _ => ?_⟩
        rw [k2]
        refine ⟨by omega, sx_byteAt hZ hT ⟨⟨hs, by omega⟩, fun x => ⟨by omega, ?_⟩, fun x => h0 (fun y => ?_)⟩⟩
        · refine ih (j + 1) (by omega) (fun i a b => ?_)
          by_cases e : i = j
          · rw [e, Int.zero_add, ← x]
            exact (if_pos ⟨by omega, by omega⟩).symm
          · exact hall i a (by omega)
        · have y3 := y.2.2
          unfold tW at y3
          rw [show (tE0 (zb z) (zn z) p - tF (zb z) (zn z) p).toNat = l by omega, ← hpk] at y3
          have := tpk_inj l (fun i a b => hlet i a (by omega)) hc y3 j (by omega) (by omega)
          rw [Int.zero_add] at this
          refine x ?_
          rw [← this]
          exact if_pos ⟨by omega, by omega⟩
    exact go l 0 (by omega) (fun i a b => by omega)
  · have qk := Decidable.not_not.mp q
    have hlet := (tok_let hZ hp qk).2
    have x3 := x.2.2
    have x2 := x.2.1
    unfold tW at x3
    rw [← hpk] at x3
    rcases Nat.lt_or_ge (tE0 (zb z) (zn z) p - tF (zb z) (zn z) p).toNat l with a | a
    · have := tpk_len a hl8 (fun i a b => hlet i a (by omega)) hc
      omega
    · have := tpk_len (k := l) (l := (tE0 (zb z) (zn z) p - tF (zb z) (zn z) p).toNat) (by omega) (by omega) hc (fun i a b => hlet i a (by omega))
      omega
end NM
