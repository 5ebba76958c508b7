/-! ===== the law's loop (printed) ===== -/
theorem law_loop (hLd : vLoad) {Q : Int → vm_M → Prop} (hQ : ∀ m, Q 1 m) : ∀ (n : Nat) (v3 : Int) (w4 w6 : Option vm_V) (m : vm_M), 0 ≤ v3 → v3 ≤ 3078 → m 903 0 - v3 < 6 * n → 0 ≤ m 903 0 → m 903 0 ≤ 3072 → (∀ j, vm_32 (m 902 j)) → INV m → kuL_law_18 v3 w4 w6 m Q := by
  intro n
  induction n with
  | zero =>
    intro v3 w4 w6 m h0 h1 h2 h3 h4 hx hI
    exact ruL_law_18 ⟨by omega, fun _ => ruL_law_1679 (hQ m), fun q => by omega⟩
  | succ n ih =>
    intro v3 w4 w6 m h0 h1 h2 h3 h4 hx hI
    refine ruL_law_18 ⟨by omega, fun _ => ruL_law_1679 (hQ m), fun q => ?_⟩
    have hL : v3 + 6 ≤ m 903 0 := by omega
    have K : ∀ m' w4 w6, vP m m' → INV m' → kuL_law_1673 v3 w4 w6 m' Q := fun m' w4 w6 p i => ruL_law_1673 ⟨by omega, ih (v3 + 6) w4 w6 m' (by omega) (by omega) (by rw [p 903 0 (by decide)]; omega) (by rw [p 903 0 (by decide)]; exact h3) (by rw [p 903 0 (by decide)]; exact h4) (fun j => by rw [p 902 j (by decide)]; exact hx j) i⟩
    refine ⟨⟨h0, by omega⟩, ?_⟩
    refine ⟨fun _ => lw_252 h0 hL h4 hx hI K, fun _ => ?_⟩
    refine ⟨fun _ => lw_315 h0 hL h4 hx hI K, fun _ => ?_⟩
    refine ⟨fun _ => lw_338 hLd h0 hL h4 hx hI K, fun _ => ?_⟩
    refine ⟨fun _ => lw_351 h0 hL h4 hx hI K, fun _ => ?_⟩
    refine ⟨fun _ => lw_364 h0 hL h4 hx hI K, fun _ => ?_⟩
    refine ⟨fun _ => lw_377 h0 hL h4 hx hI K, fun _ => ?_⟩
    refine ⟨fun _ => lw_410 h0 hL h4 hx hI K, fun _ => ?_⟩
    refine ⟨fun _ => lw_453 h0 hL h4 hx hI K, fun _ => ?_⟩
    refine ⟨fun _ => lw_476 h0 hL h4 hx hI K, fun _ => ?_⟩
    refine ⟨fun _ => lw_515 h0 hL h4 hx hI K, fun _ => ?_⟩
    refine ⟨fun _ => lw_548 h0 hL h4 hx hI K, fun _ => ?_⟩
    refine ⟨fun _ => lw_571 h0 hL h4 hx hI K, fun _ => ?_⟩
    refine ⟨fun _ => lw_594 h0 hL h4 hx hI K, fun _ => ?_⟩
    refine ⟨fun _ => lw_607 h0 hL h4 hx hI K, fun _ => ?_⟩
    refine ⟨fun _ => lw_630 h0 hL h4 hx hI K, fun _ => ?_⟩
    refine ⟨fun _ => lw_689 h0 hL h4 hx hI K, fun _ => ?_⟩
    refine ⟨fun _ => lw_722 h0 hL h4 hx hI K, fun _ => ?_⟩
    refine ⟨fun _ => lw_765 h0 hL h4 hx hI K, fun _ => ?_⟩
    refine ⟨fun _ => lw_808 h0 hL h4 hx hI K, fun _ => ?_⟩
    refine ⟨fun _ => lw_841 h0 hL h4 hx hI K, fun _ => ?_⟩
    refine ⟨fun _ => lw_880 h0 hL h4 hx hI K, fun _ => ?_⟩
    refine ⟨fun _ => lw_903 h0 hL h4 hx hI K, fun _ => ?_⟩
    refine ⟨fun _ => lw_952 h0 hL h4 hx hI K, fun _ => ?_⟩
    refine ⟨fun _ => lw_985 h0 hL h4 hx hI K, fun _ => ?_⟩
    refine ⟨fun _ => lw_1018 h0 hL h4 hx hI K, fun _ => ?_⟩
    refine ⟨fun _ => lw_1031 h0 hL h4 hx hI K, fun _ => ?_⟩
    refine ⟨fun _ => lw_1064 h0 hL h4 hx hI K, fun _ => ?_⟩
    refine ⟨fun _ => lw_1097 h0 hL h4 hx hI K, fun _ => ?_⟩
    refine ⟨fun _ => lw_1130 h0 hL h4 hx hI K, fun _ => ?_⟩
    refine ⟨fun _ => lw_1163 h0 hL h4 hx hI K, fun _ => ?_⟩
    refine ⟨fun _ => lw_1186 h0 hL h4 hx hI K, fun _ => ?_⟩
    refine ⟨fun _ => lw_1229 h0 hL h4 hx hI K, fun _ => ?_⟩
    refine ⟨fun _ => lw_1252 h0 hL h4 hx hI K, fun _ => ?_⟩
    refine ⟨fun _ => lw_1291 h0 hL h4 hx hI K, fun _ => ?_⟩
    refine ⟨fun _ => lw_1324 h0 hL h4 hx hI K, fun _ => ?_⟩
    refine ⟨fun _ => lw_1337 h0 hL h4 hx hI K, fun _ => ?_⟩
    refine ⟨fun _ => lw_1350 h0 hL h4 hx hI K, fun _ => ?_⟩
    refine ⟨fun _ => lw_1363 h0 hL h4 hx hI K, fun _ => ?_⟩
    refine ⟨fun _ => lw_1386 h0 hL h4 hx hI K, fun _ => ?_⟩
    refine ⟨fun _ => lw_1399 h0 hL h4 hx hI K, fun _ => ?_⟩
    refine ⟨fun _ => lw_1412 h0 hL h4 hx hI K, fun _ => ?_⟩
    refine ⟨fun _ => lw_1425 h0 hL h4 hx hI K, fun _ => ?_⟩
    refine ⟨fun _ => lw_1448 h0 hL h4 hx hI K, fun _ => ?_⟩
    refine ⟨fun _ => lw_1461 h0 hL h4 hx hI K, fun _ => ?_⟩
    refine ⟨fun _ => lw_1494 h0 hL h4 hx hI K, fun _ => ?_⟩
    refine ⟨fun _ => lw_1547 h0 hL h4 hx hI K, fun _ => ?_⟩
    refine ⟨fun _ => lw_1588 h0 hL h4 hx hI K, fun _ => ?_⟩
    refine ⟨fun _ => lw_1601 h0 hL h4 hx hI K, fun _ => ?_⟩
    refine ⟨fun _ => lw_1624 h0 hL h4 hx hI K, fun _ => ?_⟩
    refine ⟨fun _ => lw_1637 h0 hL h4 hx hI K, fun _ => ?_⟩
    refine ⟨fun _ => lw_1660 h0 hL h4 hx hI K, fun _ => ?_⟩
    exact K m w4 w6 vP.rf hI
