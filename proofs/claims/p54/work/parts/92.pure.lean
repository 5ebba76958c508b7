/-! ===== the parser as a function; x reads a side ===== -/
/-- was it well; the error position; the state -/
abbrev vRS : Type := Bool × Int × vPS
def pErr (z : vZs) (s : vPS) : vRS := (false, tF (zb z) (zn z) (pp s), s)
noncomputable def pName (z : vZs) (K : Int) (s : vPS) (k : vPS → vRS) : vRS := vif (tIs (zb z) (zn z) (pp s) K) (k (padv z s)) (pErr z s)
noncomputable def pSemi (z : vZs) (s : vPS) (k : vPS → vRS) : vRS := vif (tKd (zb z) (zn z) (pp s) = 3) (k (padv z s)) (pErr z s)
noncomputable def pCap (z : vZs) (s : vPS) (k : vPS → vRS) : vRS := vif (tNr (zb z) (zn z) (pp s) 1 30) (k (padv z (psetC s (tN (zb z) (zn z) (pp s))))) (pErr z s)
noncomputable def pNum (z : vZs) (c : Int) (s : vPS) (k : vPS → vRS) : vRS := vif (tNr (zb z) (zn z) (pp s) (plo c) (phi (pC s) c)) (k (padv z (psetE s c (tN (zb z) (zn z) (pp s))))) (pErr z s)
noncomputable def pSide (z : vZs) (a r : Int) : Nat → Int → vPS → (vPS → vRS) → vRS
  | 0, _, s, k => k s
  | n + 1, b, s, k => vif (tIs (zb z) (zn z) (pp s) 508078) (pSide z a r n (b + 1) (padv z (psetS s (12 * a + 6 * r + b) (-1))) k) (vif (tNr (zb z) (zn z) (pp s) 0 9) (pSide z a r n (b + 1) (padv z (psetS s (12 * a + 6 * r + b) (tN (zb z) (zn z) (pp s)))) k) (pErr z s))
/-- the board's order -/
noncomputable def pBoard (z : vZs) (s : vPS) (k : vPS → vRS) : vRS := pName z 2590276 s fun s => pNum z 0 s fun s => pNum z 1 s fun s => pName z 398372 s fun s => pNum z 2 s fun s => pName z 3120 s fun s => pCap z s fun s => pName z 7216 s fun s => pNum z 3 s fun s => pName z 769604 s fun s => pNum z 4 s fun s => pName z 632645 s fun s => pNum z 5 s fun s => pSemi z s k
theorem nm_c {s1 l : Nat} (h : (List.range l).all (fun i => decide (97 ≤ vm_sc s1 (i : Int) ∧ vm_sc s1 (i : Int) ≤ 122)) = true) : ∀ i : Int, 0 ≤ i → i < 0 + l → 97 ≤ vm_sc s1 i ∧ vm_sc s1 i ≤ 122 := fun i a b => by
  have := List.all_eq_true.mp h i.toNat (List.mem_range.mpr (by omega))
  have := of_decide_eq_true this
  rw [Int.toNat_of_nonneg a] at this
  exact this
section PZ
variable {D : vD} {E : Int → Int} {z : vZs} {m m' m0 : vm_M} {U : Int → Prop} {c : Int} {s : vPS}
theorem psetS_ok {i v : Int} (hs : pOk z s) : pOk z (psetS s i v) := hs
theorem sx_readSide {Q : Int → vm_M → Prop} (hZ : ZO D z) (hT : XT z m0) {a r : Int} {k : vPS → vRS} {R : vRS} {w0 : Int → Int} (ha : 0 ≤ a ∧ a < 26) (hr : r = 0 ∨ r = 1) (h1 : ∀ s' m' U', pOk z s' → PX z m0 U' c s' m' → (∀ i, U i → U' i) → (∀ j, 0 ≤ j → j < 6 → U' (12 * a + 6 * r + j)) → pW s' = w0 → k s' = R → Q 1 m') (h0 : ∀ s' m' U', PX z m0 U' c s' m' → R = pErr z s' → Q 0 m') : ∀ (n : Nat) (b : Int) (s : vPS) (U2 : Int → Prop) (m : vm_M), 0 ≤ b → b + n = 6 → pOk z s → PX z m0 U2 c s m → (∀ i, U i → U2 i) → (∀ j, 0 ≤ j → j < b → U2 (12 * a + 6 * r + j)) → pW s = w0 → pSide z a r n b s k = R → ku5_readSide_2 a r b m Q := by
  intro n
  induction n with
  | zero =>
    intro b s U2 m hb hn hs hP hU hj hw he
    exact ru5_readSide_2 ⟨fun _ => h1 s m U2 hs hP hU (fun j x y => hj j x (by omega)) hw he, fun q => by omega⟩
  | succ n ih =>
    intro b s U2 m hb hn hs hP hU hj hw he
    unfold pSide at he
    have nxt : ∀ v m', PX z m0 (fun i => U2 i ∨ i = 12 * a + 6 * r + b) c (padv z (psetS s (12 * a + 6 * r + b) v)) m' → pSide z a r n (b + 1) (padv z (psetS s (12 * a + 6 * r + b) v)) k = R → vm_32 (b + 1) ∧ ku5_readSide_2 a r (b + 1) m' Q := fun v m' p e => ⟨by omega, ih (b + 1) _ _ m' (by omega) (by omega) (padv_ok hZ (psetS_ok hs)) p (fun i u => Or.inl (hU i u)) (fun j x y => by
      by_cases q : j = b
      · right; omega
      · left; exact hj j x (by omega)) hw e⟩
    refine ru5_readSide_2 ⟨fun q => by omega, fun _ => sx_isName hZ (hP.T hT) hs hP.2.1 (K := 508078) (l := 4) (by decide) (by decide +kernel) (by decide) (nm_c (by decide +kernel)) (by decide +kernel) (fun kk => ⟨fun x => absurd x (by decide), fun _ => ?_⟩) (fun kk => ⟨fun _ => ?_, fun x => absurd rfl x⟩)⟩
    · rw [vif_t kk] at he
      exact sx_laySide hZ hT hs hP ha hr ⟨hb, by omega⟩ (fun m' p => nxt _ m' p he)
    · rw [vif_f kk] at he
      refine sx_isNumber hP (fun k2 e => ⟨fun x => absurd x (by decide), fun _ => ?_⟩) (fun k2 => ⟨fun _ => ?_, fun x => absurd rfl x⟩)
      · rw [vif_t k2] at he
        rw [e]
        exact sx_laySide hZ hT hs hP ha hr ⟨hb, by omega⟩ (fun m' p => nxt _ m' p he)
      · rw [vif_f k2] at he
        exact h0 s m U2 hP he.symm
end PZ
