/-! ===== the law's worlds: objects of ours, rows of ints, builders, texts ===== -/
abbrev lwB : Type := vm_M ⊕ List Int ⊕ (List Int × Nat) ⊕ List Int
abbrev lbI (m : vm_M) : lwB := .inl m
abbrev lbA (l : List Int) : lwB := .inr (.inl l)
abbrev lbB (l : List Int) (c : Nat) : lwB := .inr (.inr (.inl (l, c)))
abbrev lbS (l : List Int) : lwB := .inr (.inr (.inr l))
/-- what stands at each handle (a handle from 100 on is an address and 100; those below are texts of the pool, 99 the script) -/
abbrev lwM : Type := Nat → Option lwB
/-- and how many cells and slots may still be made -/
abbrev lwS : Type := lwM × Nat × Nat
def lup (M : lwM) (a : Nat) (B : lwB) : lwM := fun q => if q = a then some B else M q
theorem lup_s (M : lwM) (a : Nat) (B : lwB) : lup M a B a = some B := if_pos rfl
theorem lup_n {M : lwM} {a q : Nat} {B : lwB} (h : q ≠ a) : lup M a B q = M q := if_neg h
theorem lup_same {M : lwM} {a : Nat} {B : lwB} (h : M a = some B) : lup M a B = M := by
  funext q
  unfold lup
  by_cases e : q = a
  · rw [if_pos e, e, h]
  · rw [if_neg e]
theorem lup_up {M : lwM} {a : Nat} {B C : lwB} : lup (lup M a B) a C = lup M a C := by
  funext q
  unfold lup
  by_cases e : q = a
  · rw [if_pos e, if_pos e]
  · rw [if_neg e, if_neg e, if_neg e]
/-- where an object's cells lie; where a handle leads -/
def lad (AD : Nat → Nat) (a : Nat) : Nat → Nat := fun k => if k < 900 then a + k else AD k
def lvd (AD : Nat → Nat) (r : Nat) : Nat := if r < 100 then AD (1000 + r) else r - 100
def lTx (l : List Int) : Prop := ∀ z ∈ l, 0 ≤ z ∧ z < 128
def lBy (l : List Int) (f : Nat → Int32) : Prop := ∀ j : Nat, j < l.length → f j = Int32.ofInt (l.getD j 0)
/-- the cells of a block -/
def lfp (a b : Nat) (B : lwB) (q : Nat) : Prop :=
  match B with
  | .inl _ => a ≤ q ∧ q < a + 96
  | .inr (.inl _) => q = a
  | .inr (.inr _) => q = a ∨ q = b
abbrev jT' (CA : Nat → ClassId) (a b n : Nat) (f : Nat → Int32) : va_W := [(a, .inr (11, [.ref b, .int 0, .int 0, .int 0])), (b, .inl (CA 101, n, .inl f))]
def lH (dC : Nat → ClassId) (dI : Nat → Nat → Nat) (CA : Nat → ClassId) (AD : Nat → Nat) (H : Heap) (a b : Nat) (B : lwB) : Prop :=
  match B with
  | .inl m => va_P (dC, dI) vm_cls (vm_ws (lad AD a) CA false m 96) H ∧ vm_om m ∧ vm_ox vm_mZ m
  | .inr (.inl l) => va_P (dC, dI) vm_cls [(a, .inl (CA 100, l.length, .inl (fun j => Int32.ofInt (l.getD j 0))))] H ∧ (∀ z ∈ l, vm_32 z) ∧ l.length ≤ 1000
  | .inr (.inr (.inl x)) => if x.2 = 0 then x.1 = [] ∧ a = b ∧ va_P (dC, dI) vm_cls [(a, .inr (12, [.null, .int 0, .int 0, .int 0]))] H else a ≠ b ∧ x.1.length ≤ x.2 ∧ x.2 ≤ 65536 ∧ lTx x.1 ∧ ∃ f, va_P (dC, dI) vm_cls (jW CA a b x.1.length x.2 f) H ∧ sb_Fit f ∧ lBy x.1 f
  | .inr (.inr (.inr l)) => a ≠ b ∧ l.length ≤ 65536 ∧ lTx l ∧ ∃ f, va_P (dC, dI) vm_cls (jT' CA a b l.length f) H ∧ sb_Fit f ∧ lBy l f
def lW (dC : Nat → ClassId) (dI : Nat → Nat → Nat) (CA : Nat → ClassId) (AD : Nat → Nat) (base : Nat) (M : lwM) (H : Heap) : Prop :=
  ∃ bf : Nat → Nat, (∀ r B, M r = some B → 100 ≤ r ∧ lH dC dI CA AD H (r - 100) (bf r) B ∧ ∀ q, lfp (r - 100) (bf r) B q → base ≤ q) ∧
    ∀ r B r' B', M r = some B → M r' = some B' → r ≠ r' → ∀ q, lfp (r - 100) (bf r) B q → ¬ lfp (r' - 100) (bf r') B' q
section LW1
variable {dC : Nat → ClassId} {dI : Nat → Nat → Nat} {CA : Nat → ClassId} {AD : Nat → Nat} {base : Nat} {M : lwM} {H H' : Heap}
theorem va_P_lt {ws : va_W} (h : va_P (dC, dI) vm_cls ws H) {q : Nat × va_E} (hq : q ∈ ws) : q.1 < H.size := by
  obtain ⟨k, hk⟩ := List.mem_iff_getElem?.mp hq
  exact (h k q hk).lt
theorem lH_lt {a b : Nat} {B : lwB} (h : lH dC dI CA AD H a b B) {q : Nat} (hq : lfp a b B q) : q < H.size := by
  rcases B with m | l | ⟨l, c⟩ | l
  · obtain ⟨h1, -⟩ := h
    obtain ⟨g1, g2⟩ := hq
    have := va_P_lt h1 (List.mem_of_getElem? (vm_ws_at (ad := lad AD a) (CA := CA) (ph := false) (m := m) (n := 96) (k := q - a) (by omega)))
    have e : lad AD a (q - a) = q := by unfold lad; rw [if_pos (by omega)]; omega
    rw [e] at this
    exact this
  · have hq : q = a := hq
    rw [hq]
    exact va_P_lt h.1 List.mem_cons_self
  · unfold lH at h
    dsimp only at h
    split at h
    · obtain ⟨-, h2, h3⟩ := h
      have := va_P_lt h3 List.mem_cons_self
      rcases hq with hq | hq
      · rw [hq]; exact this
      · rw [hq, ← h2]; exact this
    · obtain ⟨-, -, -, -, f, h1, -⟩ := h
      rcases hq with hq | hq
      · rw [hq]; exact va_P_lt h1 List.mem_cons_self
      · rw [hq]; exact va_P_lt h1 (List.mem_cons_of_mem _ List.mem_cons_self)
  · obtain ⟨-, -, -, f, h1, -⟩ := h
    rcases hq with hq | hq
    · rw [hq]; exact va_P_lt h1 List.mem_cons_self
    · rw [hq]; exact va_P_lt h1 (List.mem_cons_of_mem _ List.mem_cons_self)
theorem va_P_kept2 {ws : va_W} (h : va_P (dC, dI) vm_cls ws H) (hk : ∀ q ∈ ws, H'[q.1]? = H[q.1]?) : va_P (dC, dI) vm_cls ws H' :=
  h.kept (fun k q hq => hk q (List.mem_of_getElem? hq))
theorem lH_kept {a b : Nat} {B : lwB} (h : lH dC dI CA AD H a b B) (hk : ∀ q, lfp a b B q → H'[q]? = H[q]?) : lH dC dI CA AD H' a b B := by
  rcases B with m | l | ⟨l, c⟩ | l
  · refine ⟨h.1.kept (fun k q hq => ?_), h.2⟩
    have hk9 := vm_ws_len hq
    rw [vm_ws_at hk9] at hq
    cases hq
    have e : lad AD a k = a + k := by unfold lad; rw [if_pos (by omega)]
    show H'[lad AD a k]? = H[lad AD a k]?
    rw [e]
    exact hk _ ⟨by omega, by omega⟩
  · exact ⟨va_P_kept2 h.1 (fun q hq => by rw [List.mem_singleton.mp hq]; exact hk _ rfl), h.2⟩
  · unfold lH at h ⊢
    dsimp only at h ⊢
    split
    · rename_i hc
      rw [if_pos hc] at h
      obtain ⟨h1, h2, h3⟩ := h
      exact ⟨h1, h2, va_P_kept2 h3 (fun q hq => by rw [List.mem_singleton.mp hq]; exact hk _ (Or.inl rfl))⟩
    · rename_i hc
      rw [if_neg hc] at h
      obtain ⟨h1, h2, h3, h4, f, h5, h6⟩ := h
      refine ⟨h1, h2, h3, h4, f, va_P_kept2 h5 (fun q hq => ?_), h6⟩
      rcases List.mem_cons.mp hq with e | e
      · rw [e]; exact hk _ (Or.inl rfl)
      · rw [List.mem_singleton.mp e]; exact hk _ (Or.inr rfl)
  · obtain ⟨h1, h2, h4, f, h5, h6⟩ := h
    refine ⟨h1, h2, h4, f, va_P_kept2 h5 (fun q hq => ?_), h6⟩
    rcases List.mem_cons.mp hq with e | e
    · rw [e]; exact hk _ (Or.inl rfl)
    · rw [List.mem_singleton.mp e]; exact hk _ (Or.inr rfl)
theorem lfp_a {a b : Nat} {B : lwB} : lfp a b B a := by
  rcases B with m | l | ⟨l, c⟩ | l
  · exact ⟨Nat.le_refl _, by omega⟩
  · exact rfl
  · exact Or.inl rfl
  · exact Or.inl rfl
/-- a block is used: what becomes of the world when it, and what is new, has changed -/
theorem lW_use {r : Nat} {B : lwB} (h : lW dC dI CA AD base M H) (hr : M r = some B) : 100 ≤ r ∧ ∃ b, lH dC dI CA AD H (r - 100) b B ∧ (∀ q, lfp (r - 100) b B q → base ≤ q) ∧ (∀ r1 B1, M r1 = some B1 → r1 ≠ r → 100 ≤ r1 ∧ ∃ b1, lH dC dI CA AD H (r1 - 100) b1 B1 ∧ (∀ q, lfp (r1 - 100) b1 B1 q → base ≤ q) ∧ ∀ q, lfp (r1 - 100) b1 B1 q → ¬ lfp (r - 100) b B q) ∧
    ∀ (H' : Heap) (b' : Nat) (B' : lwB), H.size ≤ H'.size → (∀ q, q < H.size → ¬ lfp (r - 100) b B q → H'[q]? = H[q]?) → lH dC dI CA AD H' (r - 100) b' B' → (∀ q, lfp (r - 100) b' B' q → lfp (r - 100) b B q ∨ H.size ≤ q) → base ≤ H.size → lW dC dI CA AD base (lup M r B') H' := by
  obtain ⟨bf, h1, h2⟩ := h
  obtain ⟨g1, g2, g3⟩ := h1 r B hr
  refine ⟨g1, bf r, g2, g3, fun r1 B1 hr1 hne => ⟨(h1 r1 B1 hr1).1, bf r1, (h1 r1 B1 hr1).2.1, (h1 r1 B1 hr1).2.2, fun q hq hq2 => h2 r1 B1 r B hr1 hr hne q hq hq2⟩, fun H' b' B' hs hk hB hf hb => ⟨fun x => if x = r then b' else bf x, fun x X hX => ?_, fun x X y Y hX hY hxy q hq hq2 => ?_⟩⟩
  · by_cases e : x = r
    · rw [e, lup_s] at hX
      cases hX
      dsimp only
      rw [e, if_pos rfl]
      refine ⟨g1, hB, fun q hq => ?_⟩
      rcases hf q hq with k | k
      · exact g3 q k
      · omega
    · rw [lup_n e] at hX
      dsimp only
      rw [if_neg e]
      obtain ⟨x1, x2, x3⟩ := h1 x X hX
      refine ⟨x1, lH_kept x2 (fun q hq => hk q (lH_lt x2 hq) (fun z => h2 x X r B hX hr e q hq z)), x3⟩
  · dsimp only at hq hq2
    by_cases ex : x = r
    · have ey : y ≠ r := fun z => hxy (ex.trans z.symm)
      rw [ex, lup_s] at hX
      cases hX
      rw [lup_n ey] at hY
      rw [ex, if_pos rfl] at hq
      rw [if_neg ey] at hq2
      rcases hf q hq with k | k
      · exact h2 y Y r B hY hr ey q hq2 k
      · have := lH_lt (h1 y Y hY).2.1 hq2; omega
    · rw [lup_n ex] at hX
      rw [if_neg ex] at hq
      by_cases ey : y = r
      · rw [ey, lup_s] at hY
        cases hY
        rw [ey, if_pos rfl] at hq2
        rcases hf q hq2 with k | k
        · exact h2 x X r B hX hr ex q hq k
        · have := lH_lt (h1 x X hX).2.1 hq; omega
      · rw [lup_n ey] at hY
        rw [if_neg ey] at hq2
        exact h2 x X y Y hX hY hxy q hq hq2
/-- a block is new -/
theorem lW_add {a b : Nat} {B : lwB} (h : lW dC dI CA AD base M H) (hs : H.size ≤ H'.size) (hk : ∀ q, q < H.size → H'[q]? = H[q]?) (hB : lH dC dI CA AD H' a b B) (hf : ∀ q, lfp a b B q → H.size ≤ q) (hb : base ≤ H.size) : M (a + 100) = none ∧ lW dC dI CA AD base (lup M (a + 100) B) H' := by
  obtain ⟨bf, h1, h2⟩ := h
  have hn : M (a + 100) = none := by
    cases hM : M (a + 100) with
    | none => rfl
    | some X =>
      obtain ⟨-, x2, -⟩ := h1 _ _ hM
      have q1 := lH_lt x2 (lfp_a (a := a + 100 - 100))
      have q2 := hf a lfp_a
      omega
  refine ⟨hn, fun x => if x = a + 100 then b else bf x, fun x X hX => ?_, fun x X y Y hX hY hxy q hq hq2 => ?_⟩
  · by_cases e : x = a + 100
    · rw [e, lup_s] at hX
      cases hX
      dsimp only
      rw [e, if_pos rfl, Nat.add_sub_cancel]
      exact ⟨by omega, hB, fun q hq => Nat.le_trans hb (hf q hq)⟩
    · rw [lup_n e] at hX
      dsimp only
      rw [if_neg e]
      obtain ⟨x1, x2, x3⟩ := h1 x X hX
      exact ⟨x1, lH_kept x2 (fun q hq => hk q (lH_lt x2 hq)), x3⟩
  · dsimp only at hq hq2
    by_cases ex : x = a + 100
    · have ey : y ≠ a + 100 := fun z => hxy (ex.trans z.symm)
      rw [ex, lup_s] at hX
      cases hX
      rw [lup_n ey] at hY
      rw [ex, if_pos rfl, Nat.add_sub_cancel] at hq
      rw [if_neg ey] at hq2
      have := lH_lt (h1 y Y hY).2.1 hq2
      have := hf q hq
      omega
    · rw [lup_n ex] at hX
      rw [if_neg ex] at hq
      by_cases ey : y = a + 100
      · rw [ey, lup_s] at hY
        cases hY
        rw [ey, if_pos rfl, Nat.add_sub_cancel] at hq2
        have := lH_lt (h1 x X hX).2.1 hq
        have := hf q hq2
        omega
      · rw [lup_n ey] at hY
        rw [if_neg ey] at hq2
        exact h2 x X y Y hX hY hxy q hq hq2
/-- a new block beside one that stands where nothing new lies -/
theorem lW_add2 {r : Nat} {B : lwB} (h : lW dC dI CA AD base M H) (hr : M r = some B) : 100 ≤ r ∧ ∃ b0, lH dC dI CA AD H (r - 100) b0 B ∧ (∀ q, lfp (r - 100) b0 B q → base ≤ q) ∧
    (∀ (H' : Heap) (a b : Nat) (N : lwB), H.size ≤ H'.size → (∀ q, q < H.size → ¬ lfp (r - 100) b0 B q → H'[q]? = H[q]?) → lH dC dI CA AD H' (r - 100) b0 B → lH dC dI CA AD H' a b N → (∀ q, lfp a b N q → H.size ≤ q) → base ≤ H.size → M (a + 100) = none ∧ lW dC dI CA AD base (lup M (a + 100) N) H') := by
  obtain ⟨bf, h1, h2⟩ := h
  obtain ⟨g1, g2, g3⟩ := h1 r B hr
  refine ⟨g1, bf r, g2, g3, fun H' a b N hs hk hB hN hf hb => ?_⟩
  have hn : M (a + 100) = none := by
    cases hM : M (a + 100) with
    | none => rfl
    | some X =>
      obtain ⟨-, x2, -⟩ := h1 _ _ hM
      have q1 := lH_lt x2 (lfp_a (a := a + 100 - 100))
      have q2 := hf a lfp_a
      omega
  refine ⟨hn, fun x => if x = a + 100 then b else bf x, fun x X hX => ?_, fun x X y Y hX hY hxy q hq hq2 => ?_⟩
  · by_cases e : x = a + 100
    · rw [e, lup_s] at hX
      cases hX
      dsimp only
      rw [e, if_pos rfl, Nat.add_sub_cancel]
      exact ⟨by omega, hN, fun q hq => Nat.le_trans hb (hf q hq)⟩
    · rw [lup_n e] at hX
      dsimp only
      rw [if_neg e]
      obtain ⟨x1, x2, x3⟩ := h1 x X hX
      by_cases er : x = r
      · subst er
        cases hX.symm.trans hr
        exact ⟨x1, hB, x3⟩
      · exact ⟨x1, lH_kept x2 (fun q hq => hk q (lH_lt x2 hq) (fun z => h2 x X r B hX hr er q hq z)), x3⟩
  · dsimp only at hq hq2
    by_cases ex : x = a + 100
    · have ey : y ≠ a + 100 := fun z => hxy (ex.trans z.symm)
      rw [ex, lup_s] at hX
      cases hX
      rw [lup_n ey] at hY
      rw [ex, if_pos rfl, Nat.add_sub_cancel] at hq
      rw [if_neg ey] at hq2
      have := lH_lt (h1 y Y hY).2.1 hq2
      have := hf q hq
      omega
    · rw [lup_n ex] at hX
      rw [if_neg ex] at hq
      by_cases ey : y = a + 100
      · rw [ey, lup_s] at hY
        cases hY
        rw [ey, if_pos rfl, Nat.add_sub_cancel] at hq2
        have := lH_lt (h1 x X hX).2.1 hq
        have := hf q hq2
        omega
      · rw [lup_n ey] at hY
        rw [if_neg ey] at hq2
        exact h2 x X y Y hX hY hxy q hq hq2
/-- nothing of it changes -/
theorem lW_keep (h : lW dC dI CA AD base M H) (hk : ∀ q, q < H.size → H'[q]? = H[q]?) : lW dC dI CA AD base M H' := by
  obtain ⟨bf, h1, h2⟩ := h
  exact ⟨bf, fun r B hr => ⟨(h1 r B hr).1, lH_kept (h1 r B hr).2.1 (fun q hq => hk q (lH_lt (h1 r B hr).2.1 hq)), (h1 r B hr).2.2⟩, h2⟩
end LW1
