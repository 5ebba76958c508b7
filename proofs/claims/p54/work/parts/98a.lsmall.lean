/-! ===== the law's small methods: numbers drawn; builders with their budgets ===== -/
def lfr (o : Nat) (S S' : lwS) : Prop := ∀ r, r ≠ o → S'.1 r = S.1 r
theorem lsame.fr {o : Nat} {S S' : lwS} (h : lsame o S S') : lfr o S S' := h.1
theorem lfr.rf {o : Nat} {S : lwS} : lfr o S S := fun _ _ => rfl
theorem lfr.tr {o : Nat} {S S1 S2 : lwS} (h : lfr o S S1) (h2 : lfr o S1 S2) : lfr o S S2 := fun r hr => (h2 r hr).trans (h r hr)
/-- the row of ints that numbers are drawn from -/
def lQ (q : Nat) (S : lwS) : Prop := ∃ l, S.1 q = some (lbA l) ∧ l.length = 8
theorem lQ.fr {q o : Nat} {S S' : lwS} (h : lQ q S) (hf : lfr o S S') (hne : q ≠ o) : lQ q S' := by
  obtain ⟨l, h1, h2⟩ := h
  exact ⟨l, by rw [hf q hne]; exact h1, h2⟩
theorem lO.fr {D : vD} {E : Int → Int} {z : vZs} {o r : Nat} {S S' : lwS} (h : lO D E z o S) (hf : lfr r S S') (hne : o ≠ r) : lO D E z o S' := by
  obtain ⟨h1, h2, m, h3, h4⟩ := h
  exact ⟨h1, h2, m, by rw [hf o hne]; exact h3, h4⟩
theorem lOQ {D : vD} {E : Int → Int} {z : vZs} {o q : Nat} {S : lwS} (h : lO D E z o S) (hq : lQ q S) : o ≠ q := by
  obtain ⟨-, -, m, h3, -⟩ := h
  obtain ⟨l, h1, -⟩ := hq
  intro e
  rw [e, h1] at h3
  cases h3
theorem lO.q {D : vD} {E : Int → Int} {z : vZs} {o q : Nat} {S S' : lwS} (h : lO D E z o S) (hq : lQ q S) (hf : lfr q S S') : lO D E z o S' := h.fr hf (lOQ h hq)
theorem lQ.o {D : vD} {E : Int → Int} {z : vZs} {o q : Nat} {S S' : lwS} (hq : lQ q S) (h : lO D E z o S) (hf : lfr o S S') : lQ q S' := hq.fr hf (lOQ h hq).symm
theorem lbits (a : Int) : 0 ≤ vm_and a 32767 ∧ vm_and a 32767 ≤ 32767 := by
  unfold vm_and
  generalize Int32.ofInt a = x
  have e0 : (x &&& Int32.ofInt 32767).toBitVec = x.toBitVec &&& 32767#32 := rfl
  have e1 : (x.toBitVec &&& 32767#32).toNat = x.toBitVec.toNat % 32768 := by
    rw [BitVec.toNat_and]
    exact Nat.and_two_pow_sub_one_eq_mod _ 15
  show 0 ≤ (x &&& Int32.ofInt 32767).toBitVec.toInt ∧ (x &&& Int32.ofInt 32767).toBitVec.toInt ≤ 32767
  rw [e0, BitVec.toInt_eq_toNat_cond, e1]
  split <;> omega
theorem ld_draw {q : Nat} {S : lwS} {Qp : Option vm_V → lwS → Prop} (h : lQ q S) (kk : ∀ z S', 0 ≤ z ∧ z ≤ 32767 → lsame q S S' → lQ q S' → Qp (some (vm_i z)) S') : lG lK_draw 0 (lEn lK_draw [vm_r q]) [] S Qp := by
  obtain ⟨l, h1, h2⟩ := h
  refine rL_draw_0 ⟨l, h1, by rw [h2]; decide, l, h1, by rw [h2]; decide, _, lup_s _ _ _, by rw [List.length_set, h2]; decide, ?_⟩
  exact kk _ _ (lbits _) lsame.up ⟨_, lup_s _ _ _, by rw [List.length_set, h2]⟩
/-- drawing -/
theorem ln_draw {q : Nat} {S : lwS} {P : Int → lwS → Prop} (h : lQ q S) (kk : ∀ z S', 0 ≤ z ∧ z ≤ 32767 → lsame q S S' → lQ q S' → P z S') : lCi lK_draw [vm_r q] S P := by
  refine ⟨0, 0, ⟨Nat.zero_le _, Nat.zero_le _⟩, ld_draw (S := (S.1, 0, 0)) h (fun z S' hz hs hq => ⟨z, rfl, ?_⟩)⟩
  exact kk z _ hz ⟨hs.1, rfl⟩ hq
/-- at handle b a builder holds l; with it N letters at most may come, and then x cells and y slots are left -/
def lBd (b : Nat) (l : List Int) (N x y : Nat) (S : lwS) : Prop := ∃ c, 0 < c ∧ S.1 b = some (lbB l c) ∧ (N - c) + x ≤ S.2.1 ∧ (if c < N then 4 * N - 2 * c else 0) + y ≤ S.2.2
theorem lBd.fr {b o N x y : Nat} {l : List Int} {S S' : lwS} (h : lBd b l N x y S) (hf : lsame o S S') (hne : b ≠ o) : lBd b l N x y S' := by
  obtain ⟨c, h1, h2, h3, h4⟩ := h
  exact ⟨c, h1, by rw [hf.1 b hne]; exact h2, by rw [hf.2]; exact h3, by rw [hf.2]; exact h4⟩
theorem lBdO {D : vD} {E : Int → Int} {z : vZs} {o b N x y : Nat} {l : List Int} {S : lwS} (h : lO D E z o S) (hb : lBd b l N x y S) : o ≠ b := by
  obtain ⟨-, -, m, h3, -⟩ := h
  obtain ⟨c, -, h1, -⟩ := hb
  intro e
  rw [e, h1] at h3
  cases h3
theorem lBdQ {q b N x y : Nat} {l : List Int} {S : lwS} (h : lQ q S) (hb : lBd b l N x y S) : q ≠ b := by
  obtain ⟨l, h3, -⟩ := h
  obtain ⟨c, -, h1, -⟩ := hb
  intro e
  rw [e, h1] at h3
  cases h3
theorem lap_cost {n w c N : Nat} (hc : 0 < c) (h : n + w ≤ N) : (N - sb_cap (n + w) c) + sb_k (n + w) c ≤ N - c ∧ (if sb_cap (n + w) c < N then 4 * N - 2 * sb_cap (n + w) c else 0) + sb_z (n + w) c ≤ (if c < N then 4 * N - 2 * c else 0) := by
  have g1 := sb_cap_ge (n + w) c
  have g2 := sb_cap_gem (n + w) c
  by_cases q : n + w ≤ c
  · have e : sb_cap (n + w) c = c := by unfold sb_cap; rw [if_pos q]
    unfold sb_k sb_z
    rw [e, if_pos q, if_pos q]
    exact ⟨Nat.le_refl _, Nat.le_refl _⟩
  · have e : sb_cap (n + w) c = c + (if n + w - c < c + 2 then c + 2 else n + w - c) := by
      unfold sb_cap
      rw [if_neg q]
      (repeat' split) <;> omega
    unfold sb_k sb_z
    rw [if_neg q, if_neg q]
    refine ⟨?_, ?_⟩
    · rw [e]; split <;> omega
    · rw [e]; (repeat' split) <;> omega
theorem ln_Ap {b N x y : Nat} {l w : List Int} {S : lwS} {P : lwS → Prop} (h : lBd b l N x y S) (hw : l.length + w.length ≤ N) (hN : N ≤ 32767) (kk : ∀ S', lfr b S S' → lBd b (l ++ w) N x y S' → P S') : lAp b w S P := by
  obtain ⟨c, h1, h2, h3, h4⟩ := h
  have hc := lap_cost h1 hw
  refine ⟨l, c, ⟨h2, h1, by omega, by omega, by omega⟩, kk _ (fun r hr => lup_n hr) ⟨_, lcap0 h1, lup_s _ _ _, ?_, ?_⟩⟩
  · show _ ≤ S.2.1 - sb_k (l.length + w.length) c
    omega
  · show _ ≤ S.2.2 - sb_z (l.length + w.length) c
    omega
theorem ln_Ac {b N x y : Nat} {l : List Int} {z : Int} {S : lwS} {P : lwS → Prop} (h : lBd b l N x y S) (hz : 0 ≤ z ∧ z < 128) (hw : l.length + 1 ≤ N) (hN : N ≤ 32767) (kk : ∀ S', lfr b S S' → lBd b (l ++ [z]) N x y S' → P S') : lAc b z S P := ⟨hz, ln_Ap h hw hN kk⟩
theorem ln_Ai {b N x y : Nat} {l : List Int} {z : Int} {S : lwS} {P : lwS → Prop} (h : lBd b l N x y S) (hz : 0 ≤ z ∧ z < 10000000) (hw : l.length + (lDec z.toNat).length ≤ N) (hN : N ≤ 32767) (kk : ∀ S', lfr b S S' → lBd b (l ++ lDec z.toNat) N x y S' → P S') : lAi b z S P := ⟨hz, ln_Ap h hw hN kk⟩
theorem ln_As {b r N x y : Nat} {l w : List Int} {S : lwS} {P : lwS → Prop} (h : lBd b l N x y S) (hs : lStr S.1 r w) (hw : l.length + w.length ≤ N) (hN : N ≤ 32767) (kk : ∀ S', lfr b S S' → lBd b (l ++ w) N x y S' → P S') : lAs b r S P := ⟨w, hs, ln_Ap h hw hN kk⟩
/-- a new builder -/
theorem ln_Nb {S : lwS} {P : Nat → lwS → Prop} (N x y : Nat) (hb : N + x + 2 ≤ S.2.1 ∧ 4 * N + y + 20 ≤ S.2.2) (kk : ∀ b S1, 100 ≤ b → S.1 b = none → lfr b S S1 → S1.1 b = some (lbB [] 0) → (N + x + 1 ≤ S1.2.1 ∧ 4 * N + y + 16 ≤ S1.2.2) → P b S1) : lNb S P :=
  ⟨⟨by omega, by omega⟩, fun a ha hn => kk a _ ha hn (fun r hr => lup_n hr) (lup_s _ _ _) ⟨by show _ ≤ S.2.1 - 1; omega, by show _ ≤ S.2.2 - 4; omega⟩⟩
theorem ln_I0 {b N x y : Nat} {S : lwS} {P : lwS → Prop} (hb : S.1 b = some (lbB [] 0)) (hc : N + x + 1 ≤ S.2.1 ∧ 4 * N + y + 16 ≤ S.2.2) (kk : ∀ S', lfr b S S' → lBd b [] N x y S' → P S') : lI0 b S P := by
  refine ⟨⟨hb, by omega, by omega⟩, kk _ (fun r hr => lup_n hr) ⟨16, by decide, lup_s _ _ _, ?_, ?_⟩⟩
  · show _ ≤ S.2.1 - 1; omega
  · show _ ≤ S.2.2 - 16; split <;> omega
theorem ln_Is {b r N x y : Nat} {w : List Int} {S : lwS} {P : lwS → Prop} (hb : S.1 b = some (lbB [] 0)) (hs : lStr S.1 r w) (hw : w.length ≤ 32700) (hc : N + x + 1 ≤ S.2.1 ∧ 4 * N + y + w.length + 16 ≤ S.2.2) (kk : ∀ S', lfr b S S' → lBd b w N x y S' → P S') : lIs b r S P := by
  refine ⟨w, hs, ⟨hb, hw, by omega, by omega⟩, kk _ (fun r hr => lup_n hr) ⟨w.length + 16, by omega, lup_s _ _ _, ?_, ?_⟩⟩
  · show _ ≤ S.2.1 - 1; omega
  · show _ ≤ S.2.2 - (w.length + 16); split <;> omega
/-- a text out of a builder -/
theorem ln_To {b N x y : Nat} {l : List Int} {S : lwS} {P : Nat → lwS → Prop} (h : lBd b l N (x + 2) (y + 4 + N) S) (hl : l.length ≤ N) (kk : ∀ a S', 100 ≤ a → S.1 a = none → lfr a S S' → S'.1 a = some (lbS l) → (x ≤ S'.2.1 ∧ y ≤ S'.2.2) → P a S') : lTo b S P := by
  obtain ⟨c, h1, h2, h3, h4⟩ := h
  refine ⟨l, c, ⟨h2, h1, by omega, by omega⟩, fun a ha hn => kk a _ ha hn (fun r hr => lup_n hr) (lup_s _ _ _) ⟨?_, ?_⟩⟩
  · show x ≤ S.2.1 - 2; omega
  · show y ≤ S.2.2 - (4 + l.length); omega
