/-! ===== a setup's text, read ===== -/
def lBoard (e : Int → Int) (C : Int) (rest : List Int) : List Int := [98, 111, 97, 114, 100] ++ ([32] ++ (lDec (e 0).toNat ++ ([32] ++ (lDec (e 1).toNat ++ ([32] ++ ([108, 101, 97, 100] ++ ([32] ++ (lDec (e 2).toNat ++ ([32] ++ ([99, 97, 112] ++ ([32] ++ (lDec C.toNat ++ ([32] ++ ([103, 97, 112] ++ ([32] ++ (lDec (e 3).toNat ++ ([32] ++ ([119, 111, 114, 100] ++ ([32] ++ (lDec (e 4).toNat ++ ([32] ++ ([115, 105, 122, 101] ++ ([32] ++ (lDec (e 5).toNat ++ (59 :: rest)))))))))))))))))))))))))
def lSd (f : Int → Int) : Nat → Int → List Int → List Int
  | 0, _, rest => rest
  | n + 1, b, rest => if f b = -1 then [32] ++ ([111, 112, 101, 110] ++ lSd f n (b + 1) rest) else [32] ++ (lDec (f b).toNat ++ lSd f n (b + 1) rest)
def lLet (a W : Int) (f : Int → Int) (rest : List Int) : List Int := [108, 101, 116, 116, 101, 114] ++ ([32] ++ ([97 + a] ++ ([32] ++ ([119, 105, 100, 101] ++ ([32] ++ (lDec W.toNat ++ ([32] ++ ([108, 101, 102, 116] ++ lSd f 6 0 ([32] ++ ([114, 105, 103, 104, 116] ++ lSd (fun j => f (6 + j)) 6 0 (59 :: rest)))))))))))
def lPr (q : Int × Int × Bool × Int) (rest : List Int) : List Int := [112, 97, 105, 114] ++ ([32] ++ ([97 + q.1] ++ ([32] ++ ([97 + q.2.1] ++ ([32] ++ ((if q.2.2.1 then [99, 108, 111, 115, 101, 114] else [119, 105, 100, 101, 114]) ++ ([32] ++ (lDec q.2.2.2.toNat ++ (59 :: rest)))))))))
def lLs (W S : Int → Int) : Nat → Int → List Int → List Int
  | 0, _, rest => rest
  | n + 1, a, rest => lLet a (W a) (fun j => S (12 * a + j)) (lLs W S n (a + 3) rest)
def lPs : List (Int × Int × Bool × Int) → List Int
  | [] => []
  | q :: r => lPr q (lPs r)
def lPk (q : Int × Int × Bool × Int) : Int := if q.2.2.1 then -q.2.2.2 else q.2.2.2
section LSE
variable {z : vZs} {s : vPS}
theorem lh_sp {c : Int} {x : Int} {r : List Int} (hx : tkd x ≠ c) : ∀ y, (x :: r).head? = some y → tkd y ≠ c := fun y h => by cases h; exact hx
theorem lpName {ws nm rest : List Int} {K : Int} (h : lTp z (pp s) (ws ++ (nm ++ rest))) (hw : lws ws) (hu : nm ≠ []) (hk : ∀ c ∈ nm, 97 ≤ c ∧ c ≤ 122) (hr : ∀ c, rest.head? = some c → tkd c ≠ 1) (hl : nm.length ≤ 8) (hK : lpk nm = K) : (∀ k, pName z K s k = k (padv z s)) ∧ lTp z (pp (padv z s)) rest := by
  obtain ⟨a, -, b⟩ := lName h hw hu hk hr hl hK
  exact ⟨fun k => by unfold pName; rw [vif_t a], b⟩
theorem lpNum {ws rest : List Int} {c x : Int} (h : lTp z (pp s) (ws ++ (lDec x.toNat ++ rest))) (hw : lws ws) (hx : 0 ≤ x ∧ x < 10000) (hr : ∀ c, rest.head? = some c → tkd c ≠ 2) (hb : plo c ≤ x ∧ x ≤ phi (pC s) c) : (∀ k, pNum z c s k = k (padv z (psetE s c x))) ∧ lTp z (pp (padv z (psetE s c x))) rest := by
  obtain ⟨a, b, d⟩ := lNum h hw hx hr
  exact ⟨fun k => by unfold pNum; rw [vif_t ⟨a, by rw [b]; exact hb⟩, b], d⟩
theorem lpSemi {ws rest : List Int} (h : lTp z (pp s) (ws ++ (59 :: rest))) (hw : lws ws) : (∀ k, pSemi z s k = k (padv z s)) ∧ lTp z (pp (padv z s)) rest := by
  obtain ⟨a, b⟩ := lSemi h hw
  exact ⟨fun k => by unfold pSemi; rw [vif_t a], b⟩
theorem lpName0 {nm rest : List Int} {K : Int} (h : lTp z (pp s) (nm ++ rest)) (hu : nm ≠ []) (hk : ∀ c ∈ nm, 97 ≤ c ∧ c ≤ 122) (hr : ∀ c, rest.head? = some c → tkd c ≠ 1) (hl : nm.length ≤ 8) (hK : lpk nm = K) : (∀ k, pName z K s k = k (padv z s)) ∧ lTp z (pp (padv z s)) rest := lpName (ws := []) h lws0 hu hk hr hl hK
theorem lName0 {nm rest : List Int} {K p : Int} (h : lTp z p (nm ++ rest)) (hu : nm ≠ []) (hk : ∀ c ∈ nm, 97 ≤ c ∧ c ≤ 122) (hr : ∀ c, rest.head? = some c → tkd c ≠ 1) (hl : nm.length ≤ 8) (hK : lpk nm = K) : tIs (zb z) (zn z) p K ∧ tKd (zb z) (zn z) p = 1 ∧ lTp z (tE0 (zb z) (zn z) p) rest := lName (ws := []) h lws0 hu hk hr hl hK
theorem lNotName0 {nm rest : List Int} {K p : Int} (h : lTp z p (nm ++ rest)) (hu : nm ≠ []) (hk : ∀ c ∈ nm, 97 ≤ c ∧ c ≤ 122) (hr : ∀ c, rest.head? = some c → tkd c ≠ 1) (hK : lpk nm ≠ K) : ¬ tIs (zb z) (zn z) p K := lNotName (ws := []) h lws0 hu hk hr hK
theorem lk_all {l : List Int} (h : l.all (fun c => decide (97 ≤ c ∧ c ≤ 122)) = true) : ∀ c ∈ l, 97 ≤ c ∧ c ≤ 122 := fun c hc => of_decide_eq_true (List.all_eq_true.mp h c hc)
theorem lpBoard {e : Int → Int} {C : Int} {rest : List Int} (h : lTp z (pp s) (lBoard e C rest)) (hC : 1 ≤ C ∧ C ≤ 30) (he : ∀ k, 0 ≤ k → k < 6 → plo k ≤ e k ∧ e k ≤ phi C k) : ∃ s', (∀ k, pBoard z s k = k s') ∧ lTp z (pp s') rest ∧ pW s' = pW s ∧ pS s' = pS s ∧ pC s' = C ∧ (∀ k, 0 ≤ k → k < 6 → pE s' k = e k) ∧ pK s' = pK s := by
  have hp : ∀ k, 0 ≤ k → k < 6 → 0 ≤ e k ∧ e k < 10000 := fun k k0 k6 => by
    have := he k k0 k6
    unfold plo phi at this
    (repeat' split at this) <;> omega
  have e0 := he 0 (by decide) (by decide)
  have e1 := he 1 (by decide) (by decide)
  have e2 := he 2 (by decide) (by decide)
  have e3 := he 3 (by decide) (by decide)
  have e4 := he 4 (by decide) (by decide)
  have e5 := he 5 (by decide) (by decide)
  unfold lBoard at h
  obtain ⟨a1, t1⟩ := lpName0 (K := 2590276) h (by decide) (lk_all (by decide)) (lh_sp (by decide)) (by decide) (by decide)
  obtain ⟨a2, t2⟩ := lpNum (c := 0) t1 lws1 (hp 0 (by decide) (by decide)) (lh_sp (by decide)) e0
  obtain ⟨a3, t3⟩ := lpNum (c := 1) t2 lws1 (hp 1 (by decide) (by decide)) (lh_sp (by decide)) e1
  obtain ⟨a4, t4⟩ := lpName (K := 398372) t3 lws1 (by decide) (lk_all (by decide)) (lh_sp (by decide)) (by decide) (by decide)
  obtain ⟨a5, t5⟩ := lpNum (c := 2) t4 lws1 (hp 2 (by decide) (by decide)) (lh_sp (by decide)) e2
  obtain ⟨a6, t6⟩ := lpName (K := 3120) t5 lws1 (by decide) (lk_all (by decide)) (lh_sp (by decide)) (by decide) (by decide)
  obtain ⟨c1, c2, c3⟩ := lNum t6 lws1 (show 0 ≤ C ∧ C < 10000 by omega) (lh_sp (by decide))
  have a7 : ∀ k, pCap z (padv z (padv z (psetE (padv z (padv z (psetE (padv z (psetE (padv z s) 0 (e 0))) 1 (e 1)))) 2 (e 2)))) k = k (padv z (psetC (padv z (padv z (psetE (padv z (padv z (psetE (padv z (psetE (padv z s) 0 (e 0))) 1 (e 1)))) 2 (e 2)))) C)) := fun k => by
    unfold pCap
    rw [vif_t ⟨c1, by rw [c2]; exact hC⟩, c2]
  have t7 : lTp z (pp (padv z (psetC (padv z (padv z (psetE (padv z (padv z (psetE (padv z (psetE (padv z s) 0 (e 0))) 1 (e 1)))) 2 (e 2)))) C))) _ := c3
  obtain ⟨a8, t8⟩ := lpName (K := 7216) t7 lws1 (by decide) (lk_all (by decide)) (lh_sp (by decide)) (by decide) (by decide)
  obtain ⟨a9, t9⟩ := lpNum (c := 3) t8 lws1 (hp 3 (by decide) (by decide)) (lh_sp (by decide)) e3
  obtain ⟨a10, t10⟩ := lpName (K := 769604) t9 lws1 (by decide) (lk_all (by decide)) (lh_sp (by decide)) (by decide) (by decide)
  obtain ⟨a11, t11⟩ := lpNum (c := 4) t10 lws1 (hp 4 (by decide) (by decide)) (lh_sp (by decide)) e4
  obtain ⟨a12, t12⟩ := lpName (K := 632645) t11 lws1 (by decide) (lk_all (by decide)) (lh_sp (by decide)) (by decide) (by decide)
  obtain ⟨a13, t13⟩ := lpNum (c := 5) t12 lws1 (hp 5 (by decide) (by decide)) (lh_sp (by decide)) e5
  obtain ⟨a14, t14⟩ := lpSemi (ws := []) t13 lws0
  refine ⟨_, fun k => ?_, t14, rfl, rfl, rfl, fun k k0 k6 => ?_, rfl⟩
  · unfold pBoard
    rw [a1, a2, a3, a4, a5, a6, a7, a8, a9, a10, a11, a12, a13, a14]
  · have : k = 0 ∨ k = 1 ∨ k = 2 ∨ k = 3 ∨ k = 4 ∨ k = 5 := by omega
    rcases this with rfl | rfl | rfl | rfl | rfl | rfl <;> rfl
theorem lSd_hd {f : Int → Int} {rest : List Int} (hr : ∀ c, rest.head? = some c → tkd c = 3 ∨ tkd c = 4) : ∀ (n : Nat) (b : Int), ∀ c, (lSd f n b rest).head? = some c → tkd c = 3 ∨ tkd c = 4
  | 0, b, c, h => hr c h
  | n + 1, b, c, h => by
    unfold lSd at h
    split at h
    · cases h; exact Or.inr (by decide)
    · cases h; exact Or.inr (by decide)
theorem lpSide {a r : Int} {f : Int → Int} {rest : List Int} (hr : ∀ c, rest.head? = some c → tkd c = 3 ∨ tkd c = 4) : ∀ (n : Nat) (b : Int) (s : vPS), lTp z (pp s) (lSd f n b rest) → (∀ j, b ≤ j → j < b + n → -1 ≤ f j ∧ f j ≤ 9) → ∃ s', (∀ k, pSide z a r n b s k = k s') ∧ lTp z (pp s') rest ∧ pW s' = pW s ∧ pC s' = pC s ∧ pE s' = pE s ∧ pK s' = pK s ∧ ∀ j, pS s' j = if 12 * a + 6 * r + b ≤ j ∧ j < 12 * a + 6 * r + b + n then f (j - (12 * a + 6 * r)) else pS s j
  | 0, b, s, h, _ => ⟨s, fun k => rfl, h, rfl, rfl, rfl, rfl, fun j => by rw [if_neg (by omega)]⟩
  | n + 1, b, s, h, hf => by
    have hX := lSd_hd hr (f := f) n (b + 1)
    have h1 : ∀ c, (lSd f n (b + 1) rest).head? = some c → tkd c ≠ 1 := fun c hc => by have := hX c hc; omega
    have h2 : ∀ c, (lSd f n (b + 1) rest).head? = some c → tkd c ≠ 2 := fun c hc => by have := hX c hc; omega
    have hb := hf b (Int.le_refl _) (by omega)
    have nxt : ∀ v, v = f b → lTp z (pp (padv z (psetS s (12 * a + 6 * r + b) v))) (lSd f n (b + 1) rest) → (∀ k, pSide z a r (n + 1) b s k = pSide z a r n (b + 1) (padv z (psetS s (12 * a + 6 * r + b) v)) k) → ∃ s', (∀ k, pSide z a r (n + 1) b s k = k s') ∧ lTp z (pp s') rest ∧ pW s' = pW s ∧ pC s' = pC s ∧ pE s' = pE s ∧ pK s' = pK s ∧ ∀ j, pS s' j = if 12 * a + 6 * r + b ≤ j ∧ j < 12 * a + 6 * r + b + ((n + 1 : Nat) : Int) then f (j - (12 * a + 6 * r)) else pS s j := by
      intro v hv ht hk
      obtain ⟨s', g1, g2, g3, g4, g5, g6, g7⟩ := lpSide hr n (b + 1) _ ht (fun j j1 j2 => hf j (by omega) (by omega))
      refine ⟨s', fun k => by rw [hk, g1], g2, g3, g4, g5, g6, fun j => ?_⟩
      rw [g7 j]
      by_cases q : j = 12 * a + 6 * r + b
      · rw [if_neg (by omega), if_pos (by omega)]
        show (if j = 12 * a + 6 * r + b then v else pS s j) = _
        rw [if_pos q, hv, q]
        congr 1
        omega
      · by_cases q2 : 12 * a + 6 * r + (b + 1) ≤ j ∧ j < 12 * a + 6 * r + (b + 1) + (n : Int)
        · rw [if_pos q2, if_pos (by omega)]
        · rw [if_neg q2, if_neg (by omega)]
          show (if j = 12 * a + 6 * r + b then v else pS s j) = _
          rw [if_neg q]
    unfold lSd at h
    by_cases q : f b = -1
    · rw [if_pos q] at h
      obtain ⟨a1, -, a3⟩ := lName (K := 508078) h lws1 (by decide) (lk_all (by decide)) h1 (by decide) (by decide)
      exact nxt (-1) q.symm a3 (fun k => by rw [pSide, vif_t a1])
    · rw [if_neg q] at h
      obtain ⟨a1, a2, a3⟩ := lNum h lws1 (by omega) h2
      refine nxt (f b) rfl a3 (fun k => ?_)
      rw [pSide, vif_f (fun z9 => by have := z9.1; omega), vif_t ⟨a1, by omega, by omega⟩, a2]
theorem lpLetter {a W : Int} {f : Int → Int} {rest : List Int} (h : lTp z (pp s) (lLet a W f rest)) (ha : 0 ≤ a ∧ a < 26) (hW : 1 ≤ W ∧ W ≤ 60) (hf : ∀ j, 0 ≤ j → j < 12 → -1 ≤ f j ∧ f j ≤ 9) (hn : ¬ 0 < pW s a) : tIs (zb z) (zn z) (pp s) 408572082 ∧ ∃ s', (∀ k, pLetter z s k = k s') ∧ lTp z (pp s') rest ∧ (∀ i, pW s' i = if i = a then W else pW s i) ∧ pC s' = pC s ∧ pE s' = pE s ∧ pK s' = pK s ∧ ∀ j, pS s' j = if 12 * a ≤ j ∧ j < 12 * a + 12 then f (j - 12 * a) else pS s j := by
  unfold lLet at h
  have i1 := (lName0 (K := 408572082) h (by decide) (lk_all (by decide)) (lh_sp (by decide)) (by decide) (by decide)).1
  obtain ⟨a1, t1⟩ := lpName0 (K := 408572082) h (by decide) (lk_all (by decide)) (lh_sp (by decide)) (by decide) (by decide)
  obtain ⟨a2, t2⟩ := lLetter t1 lws1 ha (lh_sp (by decide))
  obtain ⟨a3, t3⟩ := lpName (s := padv z (padv z s)) (K := 763013) t2 lws1 (by decide) (lk_all (by decide)) (lh_sp (by decide)) (by decide) (by decide)
  obtain ⟨b1, b2, b3⟩ := lNum t3 lws1 (show 0 ≤ W ∧ W < 10000 by omega) (lh_sp (by decide))
  obtain ⟨a4, t4⟩ := lpName (s := padv z (psetW (padv z (padv z (padv z s))) a W)) (K := 398548) b3 lws1 (by decide) (lk_all (by decide)) (fun c hc => by have := lSd_hd (f := f) (rest := [32] ++ ([114, 105, 103, 104, 116] ++ lSd (fun j => f (6 + j)) 6 0 (59 :: rest))) (fun c hc => by cases hc; exact Or.inr (by decide)) 6 0 c hc; omega) (by decide) (by decide)
  obtain ⟨s5, a5, t5, g1, g2, g3, g4, g5⟩ := lpSide (a := a) (r := 0) (fun c hc => by cases hc; exact Or.inr (by decide)) 6 0 _ t4 (fun j j1 j2 => hf j (by omega) (by omega))
  obtain ⟨a6, t6⟩ := lpName (K := 19176724) t5 lws1 (by decide) (lk_all (by decide)) (fun c hc => by have := lSd_hd (f := fun j => f (6 + j)) (rest := 59 :: rest) (fun c hc => by cases hc; exact Or.inl (by decide)) 6 0 c hc; omega) (by decide) (by decide)
  obtain ⟨s7, a7, t7, k1, k2, k3, k4, k5⟩ := lpSide (a := a) (r := 1) (f := fun j => f (6 + j)) (fun c hc => by cases hc; exact Or.inl (by decide)) 6 0 _ t6 (fun j j1 j2 => hf (6 + j) (by omega) (by omega))
  obtain ⟨a8, t8⟩ := lpSemi (ws := []) t7 lws0
  refine ⟨i1, _, fun k => ?_, t8, fun i => ?_, ?_, ?_, ?_, fun j => ?_⟩
  · unfold pLetter
    rw [a1, a2, vif_t ⟨by omega, hn⟩, a3, vif_t ⟨b1, by rw [b2]; exact hW⟩, b2, a4, a5, a6, a7, a8]
  · show pW s7 i = _
    rw [k1]
    show pW s5 i = _
    rw [g1]
    rfl
  · show pC s7 = _
    rw [k2]; show pC s5 = _; rw [g2]; rfl
  · show pE s7 = _
    rw [k3]; show pE s5 = _; rw [g3]; rfl
  · show pK s7 = _
    rw [k4]; show pK s5 = _; rw [g4]; rfl
  · show pS s7 j = _
    rw [k5 j]
    by_cases q : 12 * a + 6 * 1 + 0 ≤ j ∧ j < 12 * a + 6 * 1 + 0 + ((6 : Nat) : Int)
    · rw [if_pos q, if_pos (by omega)]
      congr 1
      omega
    · rw [if_neg q]
      show pS s5 j = _
      rw [g5 j]
      by_cases q2 : 12 * a + 6 * 0 + 0 ≤ j ∧ j < 12 * a + 6 * 0 + 0 + ((6 : Nat) : Int)
      · rw [if_pos q2, if_pos (by omega)]
        congr 1
        omega
      · rw [if_neg q2, if_neg (by omega)]
        rfl
theorem lpPair {q : Int × Int × Bool × Int} {rest : List Int} (h : lTp z (pp s) (lPr q rest)) (ha : pKn s q.1) (hb : pKn s q.2.1) (hv : 0 ≤ q.2.2.2 ∧ q.2.2.2 ≤ 9) : (¬ tIs (zb z) (zn z) (pp s) 408572082 ∧ ¬ tKd (zb z) (zn z) (pp s) = 0) ∧ ∃ s', (∀ k, pPair z s k = k s') ∧ lTp z (pp s') rest ∧ pW s' = pW s ∧ pC s' = pC s ∧ pE s' = pE s ∧ pS s' = pS s ∧ ∀ j, pK s' j = if j = 26 * q.1 + q.2.1 then lPk q else pK s j := by
  obtain ⟨a, b, cl, v⟩ := q
  dsimp only at ha hb hv
  unfold lPr at h
  have i1 := lNotName0 (K := 408572082) h (by decide) (lk_all (by decide)) (lh_sp (by decide)) (by decide)
  have i2 := (lName0 (K := 525618) h (by decide) (lk_all (by decide)) (lh_sp (by decide)) (by decide) (by decide)).2.1
  refine ⟨⟨i1, by omega⟩, ?_⟩
  obtain ⟨a1, t1⟩ := lpName0 (K := 525618) h (by decide) (lk_all (by decide)) (lh_sp (by decide)) (by decide) (by decide)
  obtain ⟨a2, t2⟩ := lLetter t1 lws1 ⟨ha.1, ha.2.1⟩ (lh_sp (by decide))
  have t2 : lTp z (pp (padv z (padv z s))) _ := t2
  obtain ⟨a3, t3⟩ := lLetter t2 lws1 ⟨hb.1, hb.2.1⟩ (lh_sp (by decide))
  have t3 : lTp z (pp (padv z (padv z (padv z s)))) _ := t3
  have by_ : ∀ (i : Int) (g : Int → Int) (s4 : vPS), lTp z (pp s4) ([32] ++ (lDec v.toNat ++ (59 :: rest))) → ∃ s5, (∀ k, pBy z i g s4 k = k s5) ∧ lTp z (pp s5) rest ∧ pW s5 = pW s4 ∧ pC s5 = pC s4 ∧ pE s5 = pE s4 ∧ pS s5 = pS s4 ∧ ∀ j, pK s5 j = if j = i then g v else pK s4 j := by
    intro i g s4 h4
    obtain ⟨b1, b2, b3⟩ := lNum h4 lws1 (show 0 ≤ v ∧ v < 10000 by omega) (lh_sp (by decide))
    obtain ⟨b4, b5⟩ := lpSemi (s := padv z (psetK s4 i (g v))) (ws := []) b3 lws0
    refine ⟨_, fun k => ?_, b5, rfl, rfl, rfl, rfl, fun j => rfl⟩
    unfold pBy
    rw [vif_t ⟨b1, by rw [b2]; exact hv⟩, b2, b4]
  cases cl with
  | true =>
    have t3 : lTp z (pp (padv z (padv z (padv z s)))) ([32] ++ ([99, 108, 111, 115, 101, 114] ++ ([32] ++ (lDec v.toNat ++ (59 :: rest))))) := t3
    obtain ⟨c1, -, c3⟩ := lName (K := 113757362) t3 lws1 (by decide) (lk_all (by decide)) (lh_sp (by decide)) (by decide) (by decide)
    obtain ⟨s5, g1, g2, g3, g4, g5, g6, g7⟩ := by_ (26 * a + b) (fun n => -n) (padv z (padv z (padv z (padv z s)))) c3
    refine ⟨s5, fun k => ?_, g2, g3, g4, g5, g6, fun j => ?_⟩
    · unfold pPair
      rw [a1]
      unfold pPair1
      rw [a2, vif_t (show pKn (padv z s) a from ha)]
      unfold pPair2
      rw [a3, vif_t (show pKn (padv z (padv z s)) b from hb)]
      unfold pPair3
      rw [vif_t c1, g1]
    · rw [g7 j]
      unfold lPk
      rfl
  | false =>
    have t3 : lTp z (pp (padv z (padv z (padv z s)))) ([32] ++ ([119, 105, 100, 101, 114] ++ ([32] ++ (lDec v.toNat ++ (59 :: rest))))) := t3
    have c0 := lNotName (K := 113757362) t3 lws1 (by decide) (lk_all (by decide)) (lh_sp (by decide)) (by decide)
    obtain ⟨c1, c3⟩ := lpName (K := 24416434) t3 lws1 (by decide) (lk_all (by decide)) (lh_sp (by decide)) (by decide) (by decide)
    obtain ⟨s5, g1, g2, g3, g4, g5, g6, g7⟩ := by_ (26 * a + b) (fun n => n) _ c3
    refine ⟨s5, fun k => ?_, g2, g3, g4, g5, g6, fun j => ?_⟩
    · unfold pPair
      rw [a1]
      unfold pPair1
      rw [a2, vif_t (show pKn (padv z s) a from ha)]
      unfold pPair2
      rw [a3, vif_t (show pKn (padv z (padv z s)) b from hb)]
      unfold pPair3
      rw [vif_f c0, c1, g1]
    · rw [g7 j]
      unfold lPk
      rfl
end LSE
