/-! ===== a setup is loaded ===== -/
section LLD
variable {D : vD} {E : Int → Int} {o r : Nat}
/-- what is known of x behind a setup's text -/
def lRead (e : Int → Int) (C : Int) (W S : Int → Int) (n : Nat) (ps : List (Int × Int × Bool × Int)) (s' : vPS) : Prop := pC s' = C ∧ (∀ k, 0 ≤ k → k < 6 → pE s' k = e k) ∧ (∀ i, pW s' i = if 0 ≤ i ∧ i < 3 * n ∧ i % 3 = 0 then W i else 0) ∧ (∀ j : Int, 0 ≤ j / 12 → j / 12 < 3 * n → j / 12 % 3 = 0 → pS s' j = S j) ∧ pK s' = lPf ps (fun _ => 0)
theorem ld_loads {z : vZs} {S : lwS} {x y : Nat} {Qp : Option vm_V → lwS → Prop} {e : Int → Int} {C : Int} {W Sd : Int → Int} {n : Nat} {ps : List (Int × Int × Bool × Int)} (hO : lO D E z o S) (hs : lStr S.1 r (lSetT e C W Sd n ps)) (hok : lSetOk e C W Sd n ps) (hw : lTx (lSetT e C W Sd n ps)) (hl : (lSetT e C W Sd n ps).length ≤ 1980) (hb : 100 + x ≤ S.2.1 ∧ 500 + y ≤ S.2.2) (kk : ∀ s' z' S', lRead e C W Sd n ps s' → lO (pD s') (pN6 s') z' o S' → zc z' = 0 → lkp o S S' → (x ≤ S'.2.1 ∧ y ≤ S'.2.2) → Qp (some (vm_i 1)) S') : lG lK_loads 0 (lEn lK_loads [vm_r o, vm_r r]) [] S Qp := by
  refine rL_loads_0 (ln_write hO hs hw hl hb (fun z1 S1 hO1 hT1 _ hk1 hc1 => lp_load (R := lRead e C W Sd n ps) hO1 (fun C0 => ?_) (fun s' hR S2 hs2 hO2 => lq_value hO2 (fun S3 hs3 hO3 => ?_))))
  · obtain ⟨s', h1, h2, h3, h4, h5, h6⟩ := lpLoad hT1 hok C0
    exact ⟨s', h1, h2, h3, h4, h5, h6⟩
  · refine ⟨fun c => absurd rfl c, fun _ => lq_errorPosition hO3 (fun S4 hs4 hO4 => ⟨fun c => absurd rfl c, fun _ => lq_tapeLength hO4 (fun S5 hs5 hO5 => ⟨fun c => absurd rfl c, fun _ => ?_⟩)⟩)⟩
    exact kk s' _ S5 hR hO5 rfl (hk1.tr (((hs2.tr hs3).tr hs4).tr hs5).fr.kp) (by rw [(((hs2.tr hs3).tr hs4).tr hs5).2]; exact hc1)
theorem ln_loads {z : vZs} {S : lwS} {x y : Nat} {P : Int → lwS → Prop} {e : Int → Int} {C : Int} {W Sd : Int → Int} {n : Nat} {ps : List (Int × Int × Bool × Int)} (hO : lO D E z o S) (hs : lStr S.1 r (lSetT e C W Sd n ps)) (hok : lSetOk e C W Sd n ps) (hw : lTx (lSetT e C W Sd n ps)) (hl : (lSetT e C W Sd n ps).length ≤ 1980) (hb : 100 + x ≤ S.2.1 ∧ 500 + y ≤ S.2.2) (kk : ∀ s' z' S', lRead e C W Sd n ps s' → lO (pD s') (pN6 s') z' o S' → zc z' = 0 → lkp o S S' → (x ≤ S'.2.1 ∧ y ≤ S'.2.2) → P 1 S') : lCi lK_loads [vm_r o, vm_r r] S P := by
  obtain ⟨cT, hcT⟩ : ∃ c : Nat, c = 100 := ⟨_, rfl⟩
  obtain ⟨zT, hzT⟩ : ∃ c : Nat, c = 500 := ⟨_, rfl⟩
  rw [← hcT, ← hzT] at hb
  refine ⟨cT, zT, ⟨by omega, by omega⟩, ld_loads (S := (S.1, cT, zT)) (x := 0) (y := 0) hO hs hok hw hl ⟨by show 100 + 0 ≤ cT; omega, by show 500 + 0 ≤ zT; omega⟩ (fun s' z' S' h1 h2 h3 h4 _ => ⟨1, rfl, kk s' z' _ h1 h2 h3 h4 ⟨?_, ?_⟩⟩)⟩
  · show x ≤ S.2.1 - cT; omega
  · show y ≤ S.2.2 - zT; omega
end LLD
