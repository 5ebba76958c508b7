/-! ===== everything that both sides keep ===== -/
/-- a setting: corrections, lengths, spelling, how many words; numbers -/
abbrev vTE : Type := ((Int → Int) × (Int → Int) × (Int → Int) × Int) × (Int → Int)
def teD (D : vD) (t : vTE) : vD := (dW D, dS D, dC D, t.1.1, t.1.2.1, t.1.2.2.1, t.1.2.2.2)
def teN (D : vD) (E : Int → Int) : vTE := ((dK D, dL D, dP D, dN D), E)
theorem teD_N {D : vD} {E : Int → Int} : teD D (teN D E) = D := rfl
def dSmo (D : vD) (m : vm_M) (ob : Nat) (off : Int) : Prop := m ob (off + 8) = dN D ∧ (∀ k, 0 ≤ k → k < 676 → m ob (off + (9 + k)) = dK D k) ∧ (∀ w, 0 ≤ w → w < dN D → m ob (off + (685 + w)) = dL D w) ∧ ∀ w, 0 ≤ w → w < dN D → ∀ k, 0 ≤ k → k < dL D w → m ob (off + (715 + (12 * w + k))) = dP D (12 * w + k)
def dEmo (E : Int → Int) (m : vm_M) (ob : Nat) (off : Int) : Prop := ∀ k, 0 ≤ k → k < 8 → m ob (off + k) = E k
def TX (D : vD) (t : vTE) (m : vm_M) (th : Nat) : Prop := dSx (teD D t) m th ∧ dEx t.2 m th
def TM (D : vD) (t : vTE) (m : vm_M) (ob : Nat) (off : Int) : Prop := dSmo (teD D t) m ob off ∧ dEmo t.2 m ob off
def TO (D : vD) (t : vTE) : Prop := dOS (teD D t) ∧ dOE (teD D t) t.2
theorem dEmo_0 {E : Int → Int} {m : vm_M} : dEmo E m 100 0 ↔ dEm E m := by
  constructor
  · intro h
    have g : ∀ k, 0 ≤ k → k < 8 → m 100 k = E k := fun k a b => by have := h k a b; rw [Int.zero_add] at this; exact this
    exact ⟨g 0 (by decide) (by decide), g 1 (by decide) (by decide), g 2 (by decide) (by decide), g 3 (by decide) (by decide), g 4 (by decide) (by decide), g 5 (by decide) (by decide), g 6 (by decide) (by decide), g 7 (by decide) (by decide)⟩
  · rintro ⟨h0, h1, h2, h3, h4, h5, h6, h7⟩ k a b
    rw [Int.zero_add]
    have : k = 0 ∨ k = 1 ∨ k = 2 ∨ k = 3 ∨ k = 4 ∨ k = 5 ∨ k = 6 ∨ k = 7 := by omega
    rcases this with q | q | q | q | q | q | q | q <;> rw [q] <;> assumption
theorem dSmo_0 {D : vD} {m : vm_M} : dSmo D m 100 0 ↔ dSm D m := by
  unfold dSmo dSm
  simp only [Int.zero_add]
theorem TX.fr {D : vD} {t : vTE} {S : Nat → Int → Bool} {m m' : vm_M} {th : Nat} (h : vfr S m m') (hs : ∀ k i, th ≤ k → k ≤ th + 4 → S k i = false) (hT : TX D t m th) : TX D t m' th :=
  ⟨hT.1.fr h (hs _ _ (by omega) (by omega)) (fun _ => hs _ _ (by omega) (by omega)) (fun _ => hs _ _ (by omega) (by omega)) (fun _ => hs _ _ (by omega) (by omega)), hT.2.fr h (fun _ => hs _ _ (by omega) (by omega)) (hs _ _ (by omega) (by omega)) (hs _ _ (by omega) (by omega))⟩
/-- a setting copied, cell by cell -/
theorem TM.cp {D : vD} {t : vTE} {m m' : vm_M} {ob ob' : Nat} {off off' : Int} (hO : TO D t) (h : ∀ k, 0 ≤ k → k < 1075 → m' ob' (off' + k) = m ob (off + k)) (hT : TM D t m ob off) : TM D t m' ob' off' := by
  obtain ⟨⟨h1, h2, h3, h4⟩, h5⟩ := hT
  have hN := hO.1.2.2.1
  refine ⟨⟨by rw [h 8 (by decide) (by decide), h1], fun k a b => by rw [h _ (by omega) (by omega)]; exact h2 k a b, fun w a b => by rw [h _ (by omega) (by omega)]; exact h3 w a b, fun w a b k c d => ?_⟩, fun k a b => by rw [h _ a (by omega)]; exact h5 k a b⟩
  have hl := hO.1.2.2.2.1 w a b
  rw [h _ (by omega) (by omega)]; exact h4 w a b k c d
theorem TM.fr {D : vD} {t : vTE} {S : Nat → Int → Bool} {m m' : vm_M} {ob : Nat} {off : Int} (hO : TO D t) (h : vfr S m m') (hs : ∀ i, off ≤ i → i < off + 1075 → S ob i = false) (hT : TM D t m ob off) : TM D t m' ob off :=
  hT.cp hO (fun k a b => h _ _ (hs _ (by omega) (by omega)))
/-- a signed byte -/
def vsg (b : Int) : Int := if b < 128 then b else b - 256
/-- the rest: the tape's length and bytes, the error position, how many operations can be undone, what was before them, the slots -/
abbrev vZs : Type := Int × (Int → Int) × Int × Nat × (Nat → vTE) × (Nat → Int) × (Nat → vTE)
def zn (z : vZs) : Int := z.1
def zb (z : vZs) : Int → Int := z.2.1
def ze (z : vZs) : Int := z.2.2.1
def zc (z : vZs) : Nat := z.2.2.2.1
def zh (z : vZs) : Nat → vTE := z.2.2.2.2.1
def zk (z : vZs) : Nat → Int := z.2.2.2.2.2.1
def zs (z : vZs) : Nat → vTE := z.2.2.2.2.2.2
def HX (D : vD) (c : Nat) (H : Nat → vTE) (m : vm_M) : Prop := m 21 2 = c ∧ 0 ≤ m 21 1 ∧ m 21 1 < 8 ∧ ∀ j : Nat, j < c → TX D (H j) m (23 + 5 * ((m 21 1 + 8 - c + j) % 8).toNat)
def HM (D : vD) (c : Nat) (H : Nat → vTE) (m : vm_M) : Prop := m 96 11 = c ∧ ∀ j : Nat, j < c → TM D (H j) m 101 (1075 * j)
def XT (z : vZs) (m : vm_M) : Prop := m 1 1 = zn z ∧ ∀ i, 0 ≤ i → i < zn z → m 2 i = zb z i
def MT (z : vZs) (m : vm_M) : Prop := m 96 1 = zn z ∧ ∀ i, 0 ≤ i → i < zn z → m 97 i = vsg (zb z i)
def XS (D : vD) (z : vZs) (m : vm_M) : Prop := ∀ s : Nat, s < 2 → m 64 s = zk z s ∧ (zk z s = 1 → TX D (zs z s) m (86 + 5 * s))
def MS (D : vD) (z : vZs) (m : vm_M) : Prop := ∀ s : Nat, s < 2 → m 103 s = zk z s ∧ (zk z s = 1 → TM D (zs z s) m 102 (1075 * s))
def XR (D : vD) (z : vZs) (m : vm_M) : Prop := XT z m ∧ m 0 14 = ze z ∧ HX D (zc z) (zh z) m ∧ XS D z m ∧ vST m
def MR (D : vD) (z : vZs) (m : vm_M) : Prop := MT z m ∧ m 96 2 = ze z ∧ HM D (zc z) (zh z) m ∧ MS D z m
def ZO (D : vD) (z : vZs) : Prop := (0 ≤ zn z ∧ zn z ≤ 2000) ∧ (∀ i, 0 ≤ i → i < zn z → 0 ≤ zb z i ∧ zb z i ≤ 255) ∧ zc z ≤ 8 ∧ (∀ j, j < zc z → TO D (zh z j)) ∧ ∀ s, s < 2 → (zk z s = 0 ∨ zk z s = 1) ∧ (zk z s = 1 → TO D (zs z s))
/-- all of x; all of the model -/
def vSxx (k : Nat) (_ : Int) : Bool := Nat.blt k 96
def vSmm (k : Nat) (_ : Int) : Bool := Nat.ble 96 k && Nat.blt k 900
theorem vSxx_n {k : Nat} {i : Int} (h : 96 ≤ k) : vSxx k i = false := Bool.eq_false_iff.mpr (fun q => by
  have := Nat.le_of_ble_eq_true (show Nat.ble (k + 1) 96 = true from q); omega)
theorem vSxx_t {k : Nat} {i : Int} (h : k < 96) : vSxx k i = true := Nat.ble_eq_true_of_le (n := k + 1) (m := 96) h
theorem vSmm_n {k : Nat} {i : Int} (h : k < 96 ∨ 900 ≤ k) : vSmm k i = false := Bool.eq_false_iff.mpr (fun q => by
  unfold vSmm at q
  simp only [Bool.and_eq_true] at q
  have a := Nat.le_of_ble_eq_true q.1
  have b := Nat.le_of_ble_eq_true (show Nat.ble (k + 1) 900 = true from q.2)
  omega)
theorem vSmm_t {k : Nat} {i : Int} (h : 96 ≤ k ∧ k < 900) : vSmm k i = true := by
  unfold vSmm
  rw [Nat.ble_eq_true_of_le h.1, show Nat.blt k 900 = true from Nat.ble_eq_true_of_le (n := k + 1) (m := 900) h.2]; rfl
section IV
variable {D : vD} {E : Int → Int} {z : vZs} {m m' : vm_M} {S : Nat → Int → Bool}
theorem HX.fr {c : Nat} {H : Nat → vTE} (h : vfr S m m') (hs : ∀ k i, 21 ≤ k → k ≤ 62 → S k i = false) (hc : c ≤ 8) (hX : HX D c H m) : HX D c H m' := by
  obtain ⟨h1, h2, h3, h4⟩ := hX
  unfold HX
  rw [h 21 2 (hs _ _ (by omega) (by omega)), h 21 1 (hs _ _ (by omega) (by omega))]
  exact ⟨h1, h2, h3, fun j hj => (h4 j hj).fr h (fun k i a b => hs k i (by omega) (by omega))⟩
theorem XS.fr (h : vfr S m m') (hs : ∀ k i, k = 64 ∨ (86 ≤ k ∧ k ≤ 95) → S k i = false) (hX : XS D z m) : XS D z m' := fun s hlt =>
  ⟨by rw [h _ _ (hs _ _ (Or.inl rfl))]; exact (hX s hlt).1, fun k => ((hX s hlt).2 k).fr h (fun k i a b => hs k i (by omega))⟩
theorem XT.fr (h : vfr S m m') (hs : ∀ k i, k = 1 ∨ k = 2 → S k i = false) (hX : XT z m) : XT z m' :=
  ⟨by rw [h _ _ (hs _ _ (Or.inl rfl))]; exact hX.1, fun i a b => by rw [h _ _ (hs _ _ (Or.inr rfl))]; exact hX.2 i a b⟩
theorem XR.fr (h : vfr S m m') (hs : ∀ k i, (1 ≤ k ∧ k ≤ 2) ∨ (21 ≤ k ∧ k ≤ 62) ∨ k = 64 ∨ (86 ≤ k ∧ k ≤ 95) ∨ 900 ≤ k → S k i = false) (h14 : S 0 14 = false) (hc : zc z ≤ 8) (hX : XR D z m) : XR D z m' :=
  ⟨hX.1.fr h (fun k i a => hs k i (by omega)), by rw [h _ _ h14]; exact hX.2.1, hX.2.2.1.fr h (fun k i a b => hs k i (by omega)) hc, hX.2.2.2.1.fr h (fun k i a => hs k i (by omega)), hX.2.2.2.2.fr h (fun k i a => hs k i (by omega))⟩
theorem HM.fr {c : Nat} {H : Nat → vTE} (h : vfr S m m') (hs : ∀ i, S 101 i = false) (h11 : S 96 11 = false) (hO : ∀ j, j < c → TO D (H j)) (hX : HM D c H m) : HM D c H m' :=
  ⟨by rw [h _ _ h11]; exact hX.1, fun j hj => (hX.2 j hj).fr (hO j hj) h (fun i _ _ => hs i)⟩
theorem MS.fr (h : vfr S m m') (hs : ∀ i, S 102 i = false) (h3 : ∀ i, S 103 i = false) (hO : ∀ s, s < 2 → zk z s = 1 → TO D (zs z s)) (hX : MS D z m) : MS D z m' := fun s hlt =>
  ⟨by rw [h _ _ (h3 _)]; exact (hX s hlt).1, fun k => ((hX s hlt).2 k).fr (hO s hlt k) h (fun i _ _ => hs i)⟩
theorem MT.fr (h : vfr S m m') (hs : ∀ i, S 97 i = false) (h1 : S 96 1 = false) (hX : MT z m) : MT z m' :=
  ⟨by rw [h _ _ h1]; exact hX.1, fun i a b => by rw [h _ _ (hs _)]; exact hX.2 i a b⟩
theorem MR.fr (h : vfr S m m') (hs : ∀ k i, k = 97 ∨ (101 ≤ k ∧ k ≤ 103) → S k i = false) (h1 : S 96 1 = false) (h2 : S 96 2 = false) (h11 : S 96 11 = false) (hO : ZO D z) (hX : MR D z m) : MR D z m' :=
  ⟨hX.1.fr h (fun i => hs _ _ (by omega)) h1, by rw [h _ _ h2]; exact hX.2.1, hX.2.2.1.fr h (fun i => hs _ _ (by omega)) h11 hO.2.2.2.1, hX.2.2.2.fr h (fun i => hs _ _ (by omega)) (fun i => hs _ _ (by omega)) (fun s hlt k => (hO.2.2.2.2 s hlt).2 k)⟩
theorem vP.rf : vP m m := fun _ _ _ => rfl
theorem vP.tr {m1 m2 : vm_M} (h : vP m m1) (h2 : vP m1 m2) : vP m m2 := fun k i a => (h2 k i a).trans (h k i a)
theorem vP.x (h : vfr vSxx m m') : vP m m' := fun k i a => h k i (vSxx_n (by omega))
theorem vP.mm (h : vfr vSmm m m') : vP m m' := fun k i a => h k i (vSmm_n (Or.inr a))
theorem XC.fmm (h : vfr vSmm m m') (hX : XC D E m) : XC D E m' := hX.fr h (fun k i a _ _ _ => vSmm_n (Or.inl a))
theorem XR.fmm (h : vfr vSmm m m') (hO : ZO D z) (hX : XR D z m) : XR D z m' := hX.fr h (fun k i a => vSmm_n (by omega)) (vSmm_n (by omega)) hO.2.2.1
theorem MR.fxx (h : vfr vSxx m m') (hO : ZO D z) (hX : MR D z m) : MR D z m' := hX.fr h (fun k i a => vSxx_n (by omega)) (vSxx_n (by omega)) (vSxx_n (by omega)) (vSxx_n (by omega)) hO
theorem XR.fX (h : vfr vSX m m') (hO : ZO D z) (hX : XR D z m) : XR D z m' := hX.fr h (fun k i a => vSX_n (by omega) (by omega)) rfl hO.2.2.1
theorem MR.fm (h : vfr vSm m m') (hO : ZO D z) (hX : MR D z m) : MR D z m' := hX.fr h (fun k i a => vSm_n (by omega) (by omega)) rfl rfl rfl hO
theorem vSQ_n {k : Nat} {i : Int} (h1 : vSX k i = false) (h2 : vSm k i = false) : vSQ k i = false := by unfold vSQ; rw [h1, h2]; rfl
theorem vP.q (h : vfr vSQ m m') : vP m m' := fun k i a => h k i (vSQ_n (vSX_n (by omega) (by omega)) (vSm_n (by omega) (by omega)))
/-- x's current setting has become another one -/
theorem XC.new {t : vTE} (hA : dAx D m 3) (ht : m 3 3 = vs (vtl D) 26) (hT : TX D t m 9) (h15 : m 0 15 = 0) (h69 : m 69 0 = 0) (h74 : m 74 0 = 0) : XC (teD D t) t.2 m := ⟨hA, hT.1, hT.2, ht, Or.inl h15, h69, h74⟩
theorem XC.TX (h : XC D E m) : TX D (teN D E) m 9 := ⟨h.2.1, h.2.2.1⟩
theorem OC.TO (h : OC D E) : TO D (teN D E) := ⟨h.2.1, h.2.2⟩
theorem vcp_in {s d : Nat} {sp dp n b : Int} (h : dp ≤ b ∧ b < dp + n) : vm_cp m s sp d dp n d b = m s (sp + (b - dp)) := by unfold vm_cp; rw [if_pos ⟨rfl, h.1, h.2⟩]
theorem vcp_k {s d k : Nat} {sp dp n b : Int} (h : k ≠ d) : vm_cp m s sp d dp n k b = m k b := by unfold vm_cp; rw [if_neg (fun q => h q.1)]
/-- x copies a setting -/
theorem sx_copy {Q : vm_M → Prop} {t : vTE} {th o : Nat} (h_th : vm_is th 4 = true) (h_o : vm_is o 4 = true) (hd : o + 4 < th ∨ th + 4 < o) (hO : TO D t) (hT : TX D t m o) (h : ∀ m', vfr (vSt th) m m' → TX D t m' th → Q m') : vm_C 54 [vm_r th, vm_r o] m (vm_qv Q) := by
  obtain ⟨⟨s1, s2, s3, s4⟩, ⟨e0, e1, e2, e3, e4, e5, e6, e7⟩⟩ := hT
  have hN := hO.1.2.2.1
  refine ru4_copyFrom_0 h_th h_o ?_
  have r4 : ∀ (k : Nat) (i : Int), k ≠ th + 1 → k ≠ th + 2 → k ≠ th + 3 → k ≠ th + 4 → (vm_cp (vm_cp (vm_cp (vm_cp m (o + 1) 0 (th + 1) 0 6) (o + 2) 0 (th + 2) 0 676) (o + 3) 0 (th + 3) 0 30) (o + 4) 0 (th + 4) 0 360) k i = m k i := fun k i a b c d => by
    rw [vcp_k d, vcp_k c, vcp_k b, vcp_k a]
  have c1 : ∀ i : Int, 0 ≤ i → i < 6 → (vm_cp (vm_cp (vm_cp (vm_cp m (o + 1) 0 (th + 1) 0 6) (o + 2) 0 (th + 2) 0 676) (o + 3) 0 (th + 3) 0 30) (o + 4) 0 (th + 4) 0 360) (th + 1) i = m (o + 1) i := fun i a b => by
    rw [vcp_k (by omega), vcp_k (by omega), vcp_k (by omega), vcp_in ⟨a, by omega⟩, show 0 + (i - 0) = i by omega]
  have c2 : ∀ i : Int, 0 ≤ i → i < 676 → (vm_cp (vm_cp (vm_cp (vm_cp m (o + 1) 0 (th + 1) 0 6) (o + 2) 0 (th + 2) 0 676) (o + 3) 0 (th + 3) 0 30) (o + 4) 0 (th + 4) 0 360) (th + 2) i = m (o + 2) i := fun i a b => by
    rw [vcp_k (by omega), vcp_k (by omega), vcp_in ⟨a, by omega⟩, show 0 + (i - 0) = i by omega, vcp_k (by omega)]
  have c3 : ∀ i : Int, 0 ≤ i → i < 30 → (vm_cp (vm_cp (vm_cp (vm_cp m (o + 1) 0 (th + 1) 0 6) (o + 2) 0 (th + 2) 0 676) (o + 3) 0 (th + 3) 0 30) (o + 4) 0 (th + 4) 0 360) (th + 3) i = m (o + 3) i := fun i a b => by
    rw [vcp_k (by omega), vcp_in ⟨a, by omega⟩, show 0 + (i - 0) = i by omega, vcp_k (by omega), vcp_k (by omega)]
  have c4 : ∀ i : Int, 0 ≤ i → i < 360 → (vm_cp (vm_cp (vm_cp (vm_cp m (o + 1) 0 (th + 1) 0 6) (o + 2) 0 (th + 2) 0 676) (o + 3) 0 (th + 3) 0 30) (o + 4) 0 (th + 4) 0 360) (th + 4) i = m (o + 4) i := fun i a b => by
    rw [vcp_in ⟨a, by omega⟩, show 0 + (i - 0) = i by omega, vcp_k (by omega), vcp_k (by omega), vcp_k (by omega)]
  have hfr : vfr (vSt th) m (vm_cp (vm_cp (vm_cp (vm_cp m (o + 1) 0 (th + 1) 0 6) (o + 2) 0 (th + 2) 0 676) (o + 3) 0 (th + 3) 0 30) (o + 4) 0 (th + 4) 0 360) := fun k i hk => by
    have n : ∀ j, th ≤ j → j ≤ th + 4 → k ≠ j := fun j a b q => by rw [q, vSt_t ⟨a, b⟩] at hk; cases hk
    exact r4 k i (n _ (by omega) (by omega)) (n _ (by omega) (by omega)) (n _ (by omega) (by omega)) (n _ (by omega) (by omega))
  generalize vm_cp (vm_cp (vm_cp (vm_cp m (o + 1) 0 (th + 1) 0 6) (o + 2) 0 (th + 2) 0 676) (o + 3) 0 (th + 3) 0 30) (o + 4) 0 (th + 4) 0 360 = M at *
  have n1 : (o : Nat) ≠ th := by omega
  have g4 : M o 4 = t.2 6 := by rw [r4 o 4 (by omega) (by omega) (by omega) (by omega)]; exact e6
  have g5 : M o 5 = t.2 7 := by rw [r4 o 5 (by omega) (by omega) (by omega) (by omega)]; exact e7
  have g6 : M o 6 = dN (teD D t) := by rw [r4 o 6 (by omega) (by omega) (by omega) (by omega)]; exact s1
  rw [vst_k n1, vst_k n1, vst_k n1, g4, g5, g6]
  have tt : ∀ i, vSt th th i = true := fun i => vSt_t (by omega)
  refine ⟨hO.2.2.2.2.2.2.2.2, h _ (((hfr.st (tt _)).st (tt _)).st (tt _)) ⟨⟨vst_s _ _ _ _, fun k a b => ?_, fun w a b => ?_, fun w a b k c d => ?_⟩, ⟨?_, ?_, ?_, ?_, ?_, ?_, ?_, ?_⟩⟩⟩
  · rw [vst_k (by omega), vst_k (by omega), vst_k (by omega), c2 k a b]; exact s2 k a b
  · rw [vst_k (by omega), vst_k (by omega), vst_k (by omega), c3 w a (by omega)]; exact s3 w a b
  · have hl := hO.1.2.2.2.1 w a b
    rw [vst_k (by omega), vst_k (by omega), vst_k (by omega), c4 _ (by omega) (by omega)]; exact s4 w a b k c d
  · rw [vst_k (by omega), vst_k (by omega), vst_k (by omega), c1 _ (by omega) (by omega)]; exact e0
  · rw [vst_k (by omega), vst_k (by omega), vst_k (by omega), c1 _ (by omega) (by omega)]; exact e1
  · rw [vst_k (by omega), vst_k (by omega), vst_k (by omega), c1 _ (by omega) (by omega)]; exact e2
  · rw [vst_k (by omega), vst_k (by omega), vst_k (by omega), c1 _ (by omega) (by omega)]; exact e3
  · rw [vst_k (by omega), vst_k (by omega), vst_k (by omega), c1 _ (by omega) (by omega)]; exact e4
  · rw [vst_k (by omega), vst_k (by omega), vst_k (by omega), c1 _ (by omega) (by omega)]; exact e5
  · rw [vst_i (by decide), vst_i (by decide), vst_s]
  · rw [vst_i (by decide), vst_s]
end IV
