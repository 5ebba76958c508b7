/-! ===== words are said ===== -/
section LSZ
variable {D : vD} {E : Int → Int} {o r : Nat}
/-- words that were said: how many, their lengths -/
def lSaid (D : vD) (n : Nat) : Prop := dN D = n ∧ ∀ w, 0 ≤ w → w < dN D → 1 ≤ dL D w ∧ dL D w ≤ 5
theorem ld_says {z : vZs} {S : lwS} {x y : Nat} {Qp : Option vm_V → lwS → Prop} {ws : List (List Int × Bool)} (hO : lO D E z o S) (hs : lStr S.1 r (lWt ws)) (hws : ws.length ≤ 9) (hq : ∀ q ∈ ws, (1 ≤ q.1.length ∧ q.1.length ≤ 5) ∧ ∀ a ∈ q.1, dk D a) (hw : lTx (lWt ws)) (hl : (lWt ws).length ≤ 1980) (hb : 100 + x ≤ S.2.1 ∧ 500 + y ≤ S.2.2) (kk : ∀ t z' S', lT D t z' o S' → t.2 = E → t.1.1 = dK D → lSaid (teD D t) ws.length → lkp o S S' → (x ≤ S'.2.1 ∧ y ≤ S'.2.2) → Qp (some (vm_i 1)) S') : lG lK_says 0 (lEn lK_says [vm_r o, vm_r r]) [] S Qp := by
  refine rL_says_0 (ln_write hO hs hw hl hb (fun z1 S1 hO1 hT1 _ hk1 hc1 => ?_))
  have zl : (zn z1).toNat = (lWt ws).length := by have := hT1.2.1; omega
  obtain ⟨k1, k2, k3⟩ := sR_go (D := D) ws 0 s0 hT1 rfl (Int.le_refl _) (by show (0 : Int) + (ws.length : Int) ≤ 9; omega) (fun w a b => by have b : w < 0 := b; omega) hq
  rw [← zl] at k1 k2 k3
  have k2 : sN (sR D (zb z1) (zn z1).toNat 0 s0).2 = (ws.length : Int) := by rw [k2]; show (0 : Int) + _ = _; omega
  refine lp_say hO1 k1 (fun S2 hs2 hO2 => lq_value hO2 (fun S3 hs3 hO3 => ⟨fun c => absurd rfl c, fun _ => lq_errorPosition hO3 (fun S4 hs4 hO4 => ⟨fun c => absurd rfl c, fun _ => lq_tapeLength hO4 (fun S5 hs5 hO5 => ⟨fun c => absurd rfl c, fun _ => ?_⟩)⟩)⟩))
  exact kk _ _ S5 hO5 rfl rfl ⟨k2, fun w a b => k3 w a (by have b : w < sN (sR D (zb z1) (zn z1).toNat 0 s0).2 := b; rw [k2] at b; show w < (0 : Int) + _; omega)⟩ (hk1.tr (((hs2.tr hs3).tr hs4).tr hs5).fr.kp) (by rw [(((hs2.tr hs3).tr hs4).tr hs5).2]; exact hc1)
end LSZ
section LSN
variable {D : vD} {E : Int → Int} {o r : Nat}
theorem ln_says {z : vZs} {S : lwS} {x y : Nat} {P : Int → lwS → Prop} {ws : List (List Int × Bool)} (hO : lO D E z o S) (hs : lStr S.1 r (lWt ws)) (hws : ws.length ≤ 9) (hq : ∀ q ∈ ws, (1 ≤ q.1.length ∧ q.1.length ≤ 5) ∧ ∀ a ∈ q.1, dk D a) (hw : lTx (lWt ws)) (hl : (lWt ws).length ≤ 1980) (hb : 100 + x ≤ S.2.1 ∧ 500 + y ≤ S.2.2) (kk : ∀ t z' S', lT D t z' o S' → t.2 = E → t.1.1 = dK D → lSaid (teD D t) ws.length → lkp o S S' → (x ≤ S'.2.1 ∧ y ≤ S'.2.2) → P 1 S') : lCi lK_says [vm_r o, vm_r r] S P := by
  obtain ⟨cT, hcT⟩ : ∃ c : Nat, c = 100 := ⟨_, rfl⟩
  obtain ⟨zT, hzT⟩ : ∃ c : Nat, c = 500 := ⟨_, rfl⟩
  rw [← hcT, ← hzT] at hb
  refine ⟨cT, zT, ⟨by omega, by omega⟩, ld_says (S := (S.1, cT, zT)) (x := 0) (y := 0) hO hs hws hq hw hl ⟨by show 100 + 0 ≤ cT; omega, by show 500 + 0 ≤ zT; omega⟩ (fun t z' S' h1 h2 h3 h4 h5 _ => ⟨1, rfl, kk t z' _ h1 h2 h3 h4 h5 ⟨?_, ?_⟩⟩)⟩
  · show x ≤ S.2.1 - cT; omega
  · show y ≤ S.2.2 - zT; omega
end LSN
