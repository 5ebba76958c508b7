/-! ===== the model's parser: small steps ===== -/
/-- what the model's reader writes; and where it was wrong -/
def vMg (k : Nat) (i : Int) : Bool := (Nat.ble 111 k && Nat.ble k 114) || (Nat.beq k 96 && decide (26 ≤ i ∧ i ≤ 33))
def vMp (k : Nat) (i : Int) : Bool := vMg k i || (Nat.beq k 96 && decide (i = 2))
theorem vMg_n {k : Nat} {i : Int} (h : ¬ (111 ≤ k ∧ k ≤ 114)) (h2 : k = 96 → ¬ (26 ≤ i ∧ i ≤ 33)) : vMg k i = false := Bool.eq_false_iff.mpr (fun q => by
  unfold vMg at q
  simp only [Bool.or_eq_true, Bool.and_eq_true, decide_eq_true_eq] at q
  rcases q with q | q
  · exact h ⟨Nat.le_of_ble_eq_true q.1, Nat.le_of_ble_eq_true q.2⟩
  · exact h2 (vm_beq q.1) q.2)
theorem vMp_n {k : Nat} {i : Int} (h : ¬ (111 ≤ k ∧ k ≤ 114)) (h2 : k = 96 → i ≠ 2 ∧ ¬ (26 ≤ i ∧ i ≤ 33)) : vMp k i = false := Bool.eq_false_iff.mpr (fun q => by
  unfold vMp at q
  rw [vMg_n h (fun e => (h2 e).2)] at q
  simp only [Bool.false_or, Bool.and_eq_true, decide_eq_true_eq] at q
  exact (h2 (vm_beq q.1)).1 q.2)
theorem vMg_o {k : Nat} {i : Int} (h : 111 ≤ k ∧ k ≤ 114) : vMg k i = true := by
  unfold vMg
  rw [Nat.ble_eq_true_of_le h.1, Nat.ble_eq_true_of_le h.2]; rfl
theorem vMg_96 {i : Int} (h : 26 ≤ i ∧ i ≤ 33) : vMg 96 i = true := by
  unfold vMg
  rw [decide_eq_true h]; rfl
theorem vMg_p {k : Nat} {i : Int} (h : vMg k i = true) : vMp k i = true := by unfold vMp; rw [h]; rfl
theorem vMp_o {k : Nat} {i : Int} (h : 111 ≤ k ∧ k ≤ 114) : vMp k i = true := vMg_p (vMg_o h)
theorem vMg_f {m m' : vm_M} (h : vfr vMg m m') : vfr vMp m m' := h.sub (fun _ _ => vMg_p)
theorem vTo_Mp {m m' : vm_M} (h : vfr vTo m m') : vfr vMg m m' := h.sub (fun k i hk => by
  unfold vTo at hk
  simp only [Bool.and_eq_true, decide_eq_true_eq] at hk
  rw [vm_beq hk.1]
  exact vMg_96 (by omega))
/-- what the model's new setup holds; told: W, corrections: K -/
def MA (U : Int → Prop) (g c : Int) (W K : Int → Int) (s : vPS) (m : vm_M) : Prop := (0 < g → m 96 32 = pC s) ∧ (∀ a, 0 ≤ a → a < 26 → (vm_and (vm_shr (m 96 33) a) 1 = 1 ↔ 0 < W a)) ∧ (∀ a, 0 ≤ a → a < 26 → 0 < W a → m 112 a = W a) ∧ (∀ i, U i → m 113 i = pS s i) ∧ (∀ k, 0 ≤ k → k < c → m 111 k = pE s k) ∧ ∀ k, 0 ≤ k → k < 676 → m 114 k = K k
/-- all is well so far -/
def PM (z : vZs) (m0 : vm_M) (U : Int → Prop) (g c : Int) (W K : Int → Int) (s : vPS) (m : vm_M) : Prop := vfr vMg m0 m ∧ TKm z (pp s) m ∧ m 96 31 = 1 ∧ MA U g c W K s m
/-- it was wrong at e -/
def DD (m0 : vm_M) (e : Int) (m : vm_M) : Prop := vfr vMp m0 m ∧ m 96 31 = 0 ∧ m 96 2 = e
section MK
variable {D : vD} {E : Int → Int} {z : vZs} {m m' m0 : vm_M} {U : Int → Prop} {g c : Int} {W K : Int → Int} {s : vPS} {S : Nat → Int → Bool} {k : vPS → vRS} {R : vRS}
theorem MA.fr (h : vfr S m m') (hs : ∀ k i, 111 ≤ k ∧ k ≤ 114 → S k i = false) (h32 : S 96 32 = false) (h33 : S 96 33 = false) (hA : MA U g c W K s m) : MA U g c W K s m' := by
  obtain ⟨a1, a2, a3, a4, a5, a6⟩ := hA
  exact ⟨fun q => by rw [h _ _ h32]; exact a1 q, fun a x y => by rw [h _ _ h33]; exact a2 a x y, fun a x y w => by rw [h _ _ (hs _ _ (by omega))]; exact a3 a x y w, fun i u => by rw [h _ _ (hs _ _ (by omega))]; exact a4 i u, fun k x y => by rw [h _ _ (hs _ _ (by omega))]; exact a5 k x y, fun k x y => by rw [h _ _ (hs _ _ (by omega))]; exact a6 k x y⟩
theorem TKm.fr {p : Int} (h : vfr S m m') (hs : ∀ i, 26 ≤ i ∧ i ≤ 30 → S 96 i = false) (hK : TKm z p m) : TKm z p m' := by
  unfold TKm at hK ⊢
  rw [h 96 27 (hs _ (by omega)), h 96 26 (hs _ (by omega)), h 96 28 (hs _ (by omega)), h 96 29 (hs _ (by omega)), h 96 30 (hs _ (by omega))]
  exact hK
theorem PM.T (hT : MT z m0) (hP : PM z m0 U g c W K s m) : MT z m := hT.fr hP.1 (fun i => vMg_n (by omega) (by omega)) (vMg_n (by omega) (by omega))
/-- the next token, the new setup changed meanwhile -/
theorem sm_adv {Q : vm_M → Prop} {U' : Int → Prop} {g' c' : Int} {W' K' : Int → Int} {s' : vPS} (hZ : ZO D z) (hT : MT z m0) (hs : pOk z s) (hP : PM z m0 U g c W K s m) (hp : pp s' = pp s) {m1 : vm_M} (f : vfr vMg m m1) (f26 : m1 96 26 = m 96 26) (f31 : m1 96 31 = 1) (hA : MA U' g' c' W' K' s' m1) (h : ∀ m', PM z m0 U' g' c' W' K' (padv z s') m' → Q m') : vm_C 202 [vm_r 96] m1 (vm_qv Q) := by
  have f1 := hP.1.tr f
  have T1 : MT z m1 := hT.fr f1 (fun i => vMg_n (by omega) (by omega)) (vMg_n (by omega) (by omega))
  have ok := padv_ok hZ hs
  have e26 : m1 96 26 = pp (padv z s) := by rw [f26]; exact hP.2.1.2.1
  refine sm_next hZ T1 ok e26 (fun m2 f2 k2 => h m2 ⟨f1.tr (vTo_Mp f2), ?_, ?_, hA.fr f2 (fun k i a => vTo_n (by omega)) (vTo_n (by omega)) (vTo_n (by omega))⟩)
  · have e : pp (padv z s') = pp (padv z s) := by
      show tE0 (zb z) (zn z) (pp s') = tE0 (zb z) (zn z) (pp s)
      rw [hp]
    rw [e]; exact k2
  · rw [f2 96 31 (vTo_n (by omega))]; exact f31
theorem sm_takesD {Q : vm_M → Prop} (h31 : m 96 31 = 0) {v : Int} (h : Q m) : vm_C 203 [vm_r 96, vm_i v] m (vm_qv Q) :=
  ru11_takes_0 ⟨fun _ => ⟨fun _ => h, fun x => absurd h31 x⟩, fun x => absurd h31 x⟩
theorem sm_takes {Q : vm_M → Prop} (hZ : ZO D z) (hT : MT z m0) (hs : pOk z s) (hP : PM z m0 U g c W K s m) {v : Int} (h1 : ¬ v = 0 → ∀ m', PM z m0 U g c W K (padv z s) m' → Q m') (h0 : v = 0 → ∀ m', DD m0 (tF (zb z) (zn z) (pp s)) m' → Q m') : vm_C 203 [vm_r 96, vm_i v] m (vm_qv Q) := by
  have e31 := hP.2.2.1
  refine ru11_takes_0 ⟨fun x => absurd (e31.symm.trans x) (by decide), fun _ => ⟨fun v1 => ⟨fun x => absurd (e31.symm.trans x) (by decide), fun _ => ?_⟩, fun v0 => ⟨fun _ => ?_, fun x => ?_⟩⟩⟩
  · exact sm_adv hZ hT hs hP rfl vfr.rf rfl e31 hP.2.2.2 (fun m' p => h1 v1 m' p)
  · refine h0 (Decidable.not_not.mp v0) _ ⟨((vMg_f hP.1).st rfl).st rfl, ?_, ?_⟩
    · rw [vst_i (by decide), vst_s]
    · rw [vst_s, vst_i (by decide)]; exact hP.2.1.1
  · refine absurd ?_ x
    rw [vst_i (by decide), vst_s]
theorem sm_isWordD {Q : Int → vm_M → Prop} (h31 : m 96 31 = 0) {w : Int} (h : Q 0 m) : vm_C 204 [vm_r 96, vm_l w] m (vm_qi Q) :=
  ru11_isWord_0 ⟨fun _ => h, fun x => absurd h31 x⟩
theorem sm_takeW {Q : vm_M → Prop} (hZ : ZO D z) (hT : MT z m0) (hs : pOk z s) (hP : PM z m0 U g c W K s m) {w : Int} (hk : tkey w) (he : pName z w s k = R) (h1 : ∀ m', pOk z (padv z s) → PM z m0 U g c W K (padv z s) m' → k (padv z s) = R → tIs (zb z) (zn z) (pp s) w → Q m') (h0 : ∀ s' m', R = pErr z s' → DD m0 (tF (zb z) (zn z) (pp s')) m' → Q m') : vm_C 204 [vm_r 96, vm_l w] m (vm_qi (fun z1 m1 => vm_C 203 [vm_r 96, vm_i z1] m1 (vm_qv Q))) := by
  rw [pName_eq] at he
  refine sm_isName hZ hs hP.2.1 hP.2.2.1 hk (fun t => ?_) (fun t => ?_)
  · rw [vif_t t] at he
    exact sm_takes hZ hT hs hP (fun _ m' p => h1 m' (padv_ok hZ hs) p he t) (fun x => absurd x (by decide))
  · rw [vif_f t] at he
    exact sm_takes hZ hT hs hP (fun x => absurd rfl x) (fun _ m' d => h0 s m' he.symm d)
theorem sm_takeWD {Q : vm_M → Prop} (h31 : m 96 31 = 0) {w : Int} (h : Q m) : vm_C 204 [vm_r 96, vm_l w] m (vm_qi (fun z1 m1 => vm_C 203 [vm_r 96, vm_i z1] m1 (vm_qv Q))) :=
  sm_isWordD h31 (sm_takesD h31 h)
theorem sm_number {Q : Int → vm_M → Prop} (hZ : ZO D z) (hT : MT z m0) (hs : pOk z s) (hP : PM z m0 U g c W K s m) {lo hi : Int} (h1 : tNr (zb z) (zn z) (pp s) lo hi → ∀ m', PM z m0 U g c W K (padv z s) m' → Q (tN (zb z) (zn z) (pp s)) m') (h0 : ¬ tNr (zb z) (zn z) (pp s) lo hi → ∀ v m', DD m0 (tF (zb z) (zn z) (pp s)) m' → Q v m') : vm_C 205 [vm_r 96, vm_i lo, vm_i hi] m (vm_qi Q) := by
  obtain ⟨k1, k2, k3, k4, k5, k6, k7, k8, k9⟩ := hP.2.1
  refine ru11_number_0 ⟨fun q => ?_, fun q => ?_⟩
  · exact sm_takes hZ hT hs hP (fun x => absurd rfl x) (fun _ m' d => h0 (fun t => q (k6.mpr t.1)) _ m' d)
  · have q := Decidable.not_not.mp q
    rw [k9 q]
    refine sm_in (fun t => ⟨fun x => absurd x (by decide), fun _ => ?_⟩) (fun t => ⟨fun _ => ?_, fun x => absurd rfl x⟩)
    · exact sm_takes hZ hT hs hP (fun _ m' p => h1 ⟨k6.mp q, t.1, t.2⟩ m' p) (fun x => absurd x (by decide))
    · exact sm_takes hZ hT hs hP (fun x => absurd rfl x) (fun _ m' d => h0 (fun n => t ⟨n.2.1, n.2.2⟩) _ m' d)
theorem sm_numberD {Q : Int → vm_M → Prop} (h31 : m 96 31 = 0) {lo hi : Int} (h : ∀ v, Q v m) : vm_C 205 [vm_r 96, vm_i lo, vm_i hi] m (vm_qi Q) :=
  ru11_number_0 ⟨fun _ => sm_takesD h31 (h _), fun _ => sm_in (fun _ => ⟨fun x => absurd x (by decide), fun _ => sm_takesD h31 (h _)⟩) (fun _ => ⟨fun _ => sm_takesD h31 (h _), fun x => absurd rfl x⟩)⟩
theorem sm_numberOfD {Q : Int → vm_M → Prop} (h31 : m 96 31 = 0) {w lo hi : Int} (h : ∀ v, Q v m) : vm_C 206 [vm_r 96, vm_l w, vm_i lo, vm_i hi] m (vm_qi Q) :=
  ru11_numberOf_0 (sm_takeWD h31 (sm_numberD h31 h))
theorem sm_semi {Q : vm_M → Prop} (hZ : ZO D z) (hT : MT z m0) (hs : pOk z s) (hP : PM z m0 U g c W K s m) (h1 : tKd (zb z) (zn z) (pp s) = 3 → ∀ m', PM z m0 U g c W K (padv z s) m' → Q m') (h0 : ¬ tKd (zb z) (zn z) (pp s) = 3 → ∀ m', DD m0 (tF (zb z) (zn z) (pp s)) m' → Q m') : (¬ m 96 28 = 4 → vm_C 203 [vm_r 96, vm_i 0] m (vm_qv Q)) ∧ (¬ ¬ m 96 28 = 4 → vm_C 203 [vm_r 96, vm_i 1] m (vm_qv Q)) := by
  obtain ⟨k1, k2, k3, k4, k5, k6, k7, k8, k9⟩ := hP.2.1
  refine ⟨fun q => ?_, fun q => ?_⟩
  · exact sm_takes hZ hT hs hP (fun x => absurd rfl x) (fun _ m' d => h0 (fun t => q (k7.mpr t)) m' d)
  · exact sm_takes hZ hT hs hP (fun _ m' p => h1 (k7.mp (Decidable.not_not.mp q)) m' p) (fun x => absurd x (by decide))
theorem sm_semiD {Q : vm_M → Prop} (h31 : m 96 31 = 0) (h : Q m) : (¬ m 96 28 = 4 → vm_C 203 [vm_r 96, vm_i 0] m (vm_qv Q)) ∧ (¬ ¬ m 96 28 = 4 → vm_C 203 [vm_r 96, vm_i 1] m (vm_qv Q)) :=
  ⟨fun _ => sm_takesD h31 h, fun _ => sm_takesD h31 h⟩
end MK
