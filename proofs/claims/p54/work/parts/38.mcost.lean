/-! ===== the least cost: its table, and the way along it ===== -/
def kL (R : vR) (K : Int → Int) (f : Int) : Nat → Int × Int → Int × Int
  | 0, s => s
  | n + 1, s => kL R K f n (if kval R f (f + ((n : Int) + 1)) ∧ kcd R K f (f + ((n : Int) + 1)) < s.1 then (kcd R K f (f + ((n : Int) + 1)), (n : Int) + 1) else s)
def kS (R : vR) (K : Int → Int) (f : Int) : Int × Int := if f = rN R then (0, 0) else kL R K f (rN R - f).toNat (1000000000000000, 0)
def kK (R : vR) : Nat → Int → Int
  | 0, f => if f = rN R then 0 else 1000000000000000
  | l + 1, f => (kS R (kK R l) f).1
def kT (R : vR) : Nat → Int → Int
  | 0, _ => 0
  | l + 1, f => (kS R (kK R l) f).2
/-- what is known of the best end of those behind f + n -/
def kP (R : vR) (K : Int → Int) (f : Int) (n : Int) (s : Int × Int) : Prop :=
  s.1 ≤ 1000000000000000 ∧ (∀ e, f + n < e → e ≤ rN R → kval R f e → s.1 ≤ kcd R K f e) ∧
  (s = (1000000000000000, 0) ∨ (s.1 < 1000000000000000 ∧ n < s.2 ∧ f + s.2 ≤ rN R ∧ kval R f (f + s.2) ∧ kcd R K f (f + s.2) = s.1 ∧ ∀ e, f + s.2 < e → e ≤ rN R → kval R f e → s.1 < kcd R K f e))
/-- the least of all candidates, or none -/
def kmin (R : vR) (K : Int → Int) (f : Int) (c : Int) : Prop :=
  c ≤ 1000000000000000 ∧ (∀ e, f < e → e ≤ rN R → kval R f e → c ≤ kcd R K f e) ∧ (c = 1000000000000000 ∨ ∃ e, f < e ∧ e ≤ rN R ∧ kval R f e ∧ kcd R K f e = c)
theorem kmin_u {R : vR} {K : Int → Int} {f c d : Int} (h : kmin R K f c) (g : kmin R K f d) : c = d := by
  obtain ⟨h1, h2, h3⟩ := h
  obtain ⟨g1, g2, g3⟩ := g
  have a : c ≤ d := by
    rcases g3 with q | ⟨e, e1, e2, e3, e4⟩
    · omega
    · have := h2 e e1 e2 e3; omega
  have b : d ≤ c := by
    rcases h3 with q | ⟨e, e1, e2, e3, e4⟩
    · omega
    · have := g2 e e1 e2 e3; omega
  omega
section BC
variable {R : vR} {K : Int → Int}
theorem kL_s {f : Int} {n : Nat} {s : Int × Int} (hN : f + n + 1 ≤ rN R) (h : kP R K f ((n : Int) + 1) s) : kP R K f n (if kval R f (f + ((n : Int) + 1)) ∧ kcd R K f (f + ((n : Int) + 1)) < s.1 then (kcd R K f (f + ((n : Int) + 1)), (n : Int) + 1) else s) := by
  obtain ⟨h1, h2, h3⟩ := h
  by_cases hq : kval R f (f + ((n : Int) + 1)) ∧ kcd R K f (f + ((n : Int) + 1)) < s.1
  · rw [if_pos hq]
    refine ⟨by dsimp only; omega, fun e e1 e2 e3 => ?_, Or.inr ⟨by dsimp only; omega, by dsimp only; omega, by dsimp only; omega, hq.1, rfl, fun e e1 e2 e3 => ?_⟩⟩
    · dsimp only
      by_cases he : e = f + ((n : Int) + 1)
      · rw [he]; omega
      · have := h2 e (by omega) e2 e3
        omega
    · dsimp only at e1 ⊢
      have := h2 e (by omega) e2 e3
      omega
  · rw [if_neg hq]
    refine ⟨h1, fun e e1 e2 e3 => ?_, ?_⟩
    · by_cases he : e = f + ((n : Int) + 1)
      · rw [he] at e3 ⊢
        rcases Int.lt_or_le (kcd R K f (f + ((n : Int) + 1))) s.1 with a | a
        · exact absurd ⟨e3, a⟩ hq
        · exact a
      · exact h2 e (by omega) e2 e3
    · rcases h3 with a | a
      · exact Or.inl a
      · exact Or.inr ⟨a.1, by have := a.2.1; omega, a.2.2⟩
theorem kL_ok {f : Int} : ∀ (n : Nat) (s : Int × Int), f + n ≤ rN R → kP R K f n s → kP R K f 0 (kL R K f n s)
  | 0, s, _, h => h
  | n + 1, s, hN, h => by
    unfold kL
    refine kL_ok n _ (by omega) (kL_s (by omega) ?_)
    exact h
theorem kS_ok {f : Int} (hf : f < rN R) : kP R K f 0 (kS R K f) := by
  unfold kS
  rw [if_neg (by omega)]
  refine kL_ok _ _ (by omega) ⟨Int.le_refl _, fun e e1 e2 e3 => by omega, Or.inl rfl⟩
theorem kS_min {f : Int} (hf : f < rN R) : kmin R K f (kS R K f).1 := by
  obtain ⟨h1, h2, h3⟩ := kS_ok (K := K) hf
  refine ⟨h1, fun e e1 => h2 e (by omega), ?_⟩
  rcases h3 with a | a
  · left; rw [a]
  · right; exact ⟨_, by have := a.2.1; omega, a.2.2.1, a.2.2.2.1, a.2.2.2.2.1⟩
theorem kcd_bd (h : rOK R) {f e B : Int} (hK : ∀ z, 0 ≤ z → z ≤ rN R → 0 ≤ K z ∧ (K z < 1000000000000000 → K z ≤ B)) (hB : 0 ≤ B) (hf : 0 ≤ f) (hfe : f < e) (he : e ≤ rN R) : 0 ≤ kcd R K f e ∧ (kcd R K f e < 1000000000000000 → kcd R K f e ≤ B + 99960004) := by
  have h1 := vsq_bd (I := rI R) (w := rwd R f e) h.2.2.2.2.2.1 (rwd_bd h hf hfe he).1
  have h2 := hK e (by omega) he
  unfold kcd
  by_cases hq : e = rN R
  · rw [if_pos hq]; omega
  · rw [if_neg hq]
    refine ⟨by omega, fun q => ?_⟩
    have := h2.2 (by omega)
    omega
theorem kK_bd (h : rOK R) : ∀ (l : Nat) (f : Int), 0 ≤ f → f ≤ rN R → 0 ≤ kK R l f ∧ kK R l f ≤ 1000000000000000 ∧ (kK R l f < 1000000000000000 → kK R l f ≤ 99960004 * l)
  | 0, f, h1, h2 => by
    unfold kK
    by_cases hq : f = rN R
    · rw [if_pos hq]; omega
    · rw [if_neg hq]; omega
  | l + 1, f, h1, h2 => by
    show 0 ≤ (kS R (kK R l) f).1 ∧ (kS R (kK R l) f).1 ≤ 1000000000000000 ∧ ((kS R (kK R l) f).1 < 1000000000000000 → (kS R (kK R l) f).1 ≤ 99960004 * ((l + 1 : Nat) : Int))
    by_cases hq : f = rN R
    · unfold kS; rw [if_pos hq]; dsimp only; omega
    · obtain ⟨m1, m2, m3⟩ := kS_min (R := R) (K := kK R l) (f := f) (by omega)
      rcases m3 with a | ⟨e, e1, e2, e3, e4⟩
      · rw [a]; omega
      · have := kcd_bd h (K := kK R l) (B := 99960004 * l) (fun z z1 z2 => ⟨(kK_bd h l z z1 z2).1, (kK_bd h l z z1 z2).2.2⟩) (by omega) h1 e1 e2
        rw [e4] at this
        refine ⟨this.1, m1, fun q => ?_⟩
        have := this.2 q
        omega
/-- from a place with a way: the best end -/
theorem kT_ok (h : rOK R) {l : Nat} {f : Int} (hf : 0 ≤ f) (hN : f < rN R) (hK : kK R (l + 1) f < 1000000000000000) : 1 ≤ kT R (l + 1) f ∧ f + kT R (l + 1) f ≤ rN R ∧ kval R f (f + kT R (l + 1) f) ∧ kcd R (kK R l) f (f + kT R (l + 1) f) = kK R (l + 1) f ∧ (∀ e, f + kT R (l + 1) f < e → e ≤ rN R → kval R f e → kK R (l + 1) f < kcd R (kK R l) f e) ∧ kK R l (f + kT R (l + 1) f) < 1000000000000000 := by
  obtain ⟨h1, h2, h3⟩ := kS_ok (K := kK R l) (f := f) hN
  have hK' : (kS R (kK R l) f).1 < 1000000000000000 := hK
  rcases h3 with a | a
  · rw [a] at hK'; exact absurd hK' (by decide)
  · obtain ⟨a1, a2, a3, a4, a5, a6⟩ := a
    have e1 : kT R (l + 1) f = (kS R (kK R l) f).2 := rfl
    have e2 : kK R (l + 1) f = (kS R (kK R l) f).1 := rfl
    rw [e1, e2]
    refine ⟨by omega, a3, a4, a5, a6, ?_⟩
    by_cases hq : f + (kS R (kK R l) f).2 = rN R
    · rw [hq]
      cases l with
      | zero => unfold kK; rw [if_pos rfl]; decide
      | succ l => show (kS R (kK R l) (rN R)).1 < 1000000000000000; unfold kS; rw [if_pos rfl]; decide
    · unfold kcd at a5
      rw [if_neg hq] at a5
      have := (vsq_bd (I := rI R) (w := rwd R f (f + (kS R (kK R l) f).2)) h.2.2.2.2.2.1 (rwd_bd h hf (by omega) a3).1).1
      omega
theorem kK_0 {f : Int} (h : kK R 0 f < 1000000000000000) : f = rN R := by
  unfold kK at h
  by_cases hq : f = rN R
  · exact hq
  · rw [if_neg hq] at h; omega
/-- the cheapest way -/
def kF (R : vR) : Nat → Int
  | 0 => 0
  | r + 1 => if kF R r < rN R then kF R r + kT R (12 - r) (kF R r) else kF R r
theorem kF_s (r : Nat) (hq : kF R r < rN R) : kF R (r + 1) = kF R r + kT R (12 - r) (kF R r) := by
  show (if kF R r < rN R then kF R r + kT R (12 - r) (kF R r) else kF R r) = _
  rw [if_pos hq]
theorem kF_ok (h : rOK R) (hw : kK R 12 0 < 1000000000000000) : ∀ r, 0 ≤ kF R r ∧ kF R r ≤ rN R ∧ kK R (12 - r) (kF R r) < 1000000000000000
  | 0 => ⟨Int.le_refl _, h.1, hw⟩
  | r + 1 => by
    obtain ⟨i1, i2, i3⟩ := kF_ok h hw r
    by_cases hq : kF R r < rN R
    · rw [kF_s r hq]
      rcases Nat.lt_or_ge r 12 with a | a
      · obtain ⟨l, hl⟩ : ∃ l, 12 - r = l + 1 := ⟨11 - r, by omega⟩
        rw [hl] at i3 ⊢
        have := kT_ok h i1 hq i3
        rw [show 12 - (r + 1) = l by omega]
        exact ⟨by omega, this.2.1, this.2.2.2.2.2⟩
      · rw [show 12 - r = 0 by omega] at i3
        have := kK_0 i3
        omega
    · unfold kF
      rw [if_neg hq]
      refine ⟨i1, i2, ?_⟩
      rw [show kF R r = rN R by omega]
      cases 12 - (r + 1) with
      | zero => unfold kK; rw [if_pos rfl]; decide
      | succ l => show (kS R (kK R l) (rN R)).1 < 1000000000000000; unfold kS; rw [if_pos rfl]; decide
theorem kF_t (h : rOK R) (hw : kK R 12 0 < 1000000000000000) (r : Nat) (hq : kF R r < rN R) : ∃ l, 12 - r = l + 1 ∧ 1 ≤ kT R (l + 1) (kF R r) ∧ kF R (r + 1) = kF R r + kT R (l + 1) (kF R r) ∧ kval R (kF R r) (kF R (r + 1)) ∧ kF R (r + 1) ≤ rN R := by
  obtain ⟨i1, i2, i3⟩ := kF_ok h hw r
  rcases Nat.lt_or_ge r 12 with a | a
  · obtain ⟨l, hl⟩ : ∃ l, 12 - r = l + 1 := ⟨11 - r, by omega⟩
    have e := kF_s r hq
    rw [hl] at i3 e
    have := kT_ok h i1 hq i3
    rw [e]
    exact ⟨l, hl, this.1, rfl, this.2.2.1, this.2.1⟩
  · rw [show 12 - r = 0 by omega] at i3
    have := kK_0 i3
    omega
theorem kF_up (h : rOK R) (hw : kK R 12 0 < 1000000000000000) (r : Nat) (hq : kF R r < rN R) : kF R r + 1 ≤ kF R (r + 1) := by
  obtain ⟨l, -, h1, h2, -⟩ := kF_t h hw r hq
  omega
theorem kF_12 (h : rOK R) (hw : kK R 12 0 < 1000000000000000) : kF R 12 = rN R := kK_0 (kF_ok h hw 12).2.2
def kcnt (R : vR) : Nat := vcnt (kF R) (rN R)
theorem kcnt_ok (h : rOK R) (hw : kK R 12 0 < 1000000000000000) : kF R (kcnt R) = rN R ∧ ∀ j, j < kcnt R → kF R j < rN R :=
  vcnt_ok rfl h.2.1 (fun r => (kF_ok h hw r).2.1) (kF_up h hw)
theorem kcnt_12 (h : rOK R) (hw : kK R 12 0 < 1000000000000000) : kcnt R ≤ 12 := by
  rcases Nat.lt_or_ge 12 (kcnt R) with a | a
  · have := (kcnt_ok h hw).2 12 a
    have := kF_12 h hw
    omega
  · exact a
end BC
/-- rows: how many, and where they begin -/
def bQ (R : vR) (how : Int) : Nat := if how = 0 then (if gcnt R ≤ 12 then gcnt R else 0) else (if kK R 12 0 < 1000000000000000 then kcnt R else 0)
def bF (R : vR) (how : Int) (r : Nat) : Int := if how = 0 then gF R r else kF R r
theorem bQ_ok {R : vR} (h : rOK R) (how : Int) : bQ R how ≤ 12 ∧ bF R how 0 = 0 ∧ (0 < bQ R how → bF R how (bQ R how) = rN R) ∧ (∀ r, r < bQ R how → 0 ≤ bF R how r ∧ bF R how r + 1 ≤ bF R how (r + 1) ∧ bF R how (r + 1) ≤ rN R ∧ kval R (bF R how r) (bF R how (r + 1))) ∧ (rN R = 0 → bQ R how = 0) := by
  unfold bQ
  by_cases hh : how = 0
  · subst hh
    rw [if_pos rfl]
    have e : bF R 0 = gF R := by funext r; unfold bF; rw [if_pos rfl]
    rw [e]
    have h1 := gcnt_ok h
    by_cases hq : gcnt R ≤ 12
    · rw [if_pos hq]
      refine ⟨hq, rfl, fun _ => h1.1, fun r hr => ?_, fun q => ?_⟩
      · have a := h1.2 r hr
        have b := gend_ok h (gF_bd h r).1 a
        have c := gF_s r a
        rw [c]
        exact ⟨(gF_bd h r).1, b.1, b.2.1, b.2.2.1⟩
      · rcases Nat.eq_zero_or_pos (gcnt R) with a | a
        · exact a
        · have b := h1.2 0 a
          have c : gF R 0 = 0 := rfl
          omega
    · rw [if_neg hq]
      exact ⟨by omega, rfl, fun q => by omega, fun r hr => by omega, fun _ => rfl⟩
  · rw [if_neg hh]
    have e : bF R how = kF R := by funext r; unfold bF; rw [if_neg hh]
    rw [e]
    by_cases hq : kK R 12 0 < 1000000000000000
    · rw [if_pos hq]
      have h1 := kcnt_ok h hq
      refine ⟨kcnt_12 h hq, rfl, fun _ => h1.1, fun r hr => ?_, fun q => ?_⟩
      · have a := h1.2 r hr
        obtain ⟨l, b1, b2, b3, b4, b5⟩ := kF_t h hq r a
        exact ⟨(kF_ok h hq r).1, by omega, b5, b4⟩
      · rcases Nat.eq_zero_or_pos (kcnt R) with a | a
        · exact a
        · have b := h1.2 0 a
          have c : kF R 0 = 0 := rfl
          omega
    · rw [if_neg hq]
      exact ⟨by omega, rfl, fun q => by omega, fun r hr => by omega, fun _ => rfl⟩
