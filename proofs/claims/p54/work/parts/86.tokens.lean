/-! ===== tokens, as x reads them ===== -/
def tb (b : Int → Int) (n i : Int) : Int := if 0 ≤ i ∧ i < n then b i else -1
def tkd (v : Int) : Int := if v = -1 then 0 else if 97 ≤ v ∧ v ≤ 122 then 1 else if 48 ≤ v ∧ v ≤ 57 then 2 else if v = 59 then 3 else 4
/-- the first byte from p on that is not white -/
def tf (b : Int → Int) (n : Int) : Nat → Int → Int
  | 0, p => p
  | k + 1, p => if b p = 32 ∨ b p = 10 then tf b n k (p + 1) else p
/-- the end of a run of kind c -/
def tru (b : Int → Int) (n c : Int) : Nat → Int → Int
  | 0, e => e
  | k + 1, e => if tkd (b e) = c then tru b n c k (e + 1) else e
/-- the number of k digits from f on -/
def tnu (b : Int → Int) (f : Int) : Nat → Int
  | 0 => 0
  | k + 1 => tnu b f k * 10 + b (f + k) - 48
def tF (b : Int → Int) (n p : Int) : Int := tf b n (n - p).toNat p
def tK0 (b : Int → Int) (n p : Int) : Int := tkd (tb b n (tF b n p))
def tE0 (b : Int → Int) (n p : Int) : Int := if tF b n p < n then (if tK0 b n p = 1 ∨ tK0 b n p = 2 then tru b n (tK0 b n p) (n - (tF b n p + 1)).toNat (tF b n p + 1) else tF b n p + 1) else tF b n p
def tKd (b : Int → Int) (n p : Int) : Int := if tK0 b n p = 2 ∧ 4 < tE0 b n p - tF b n p then 4 else tK0 b n p
def tN (b : Int → Int) (n p : Int) : Int := tnu b (tF b n p) (tE0 b n p - tF b n p).toNat
theorem tf_bd {b : Int → Int} {n : Int} : ∀ (k : Nat) (p : Int), p + k = n → p ≤ tf b n k p ∧ tf b n k p ≤ n ∧ (tf b n k p < n → ¬ (b (tf b n k p) = 32 ∨ b (tf b n k p) = 10)) ∧ ∀ i, p ≤ i → i < tf b n k p → b i = 32 ∨ b i = 10
  | 0, p, h => ⟨Int.le_refl _, by show p ≤ n; omega, fun q => by have : p < n := q; omega, fun i h1 h2 => by have : i < p := h2; omega⟩
  | k + 1, p, h => by
    unfold tf
    split
    · rename_i q
      have i := tf_bd (b := b) (n := n) k (p + 1) (by omega)
      refine ⟨by omega, i.2.1, i.2.2.1, fun j h1 h2 => ?_⟩
      by_cases e : j = p
      · rw [e]; exact q
      · exact i.2.2.2 j (by omega) h2
    · rename_i q
      exact ⟨Int.le_refl _, by omega, fun _ => q, fun i h1 h2 => by omega⟩
theorem tru_bd {b : Int → Int} {n c : Int} : ∀ (k : Nat) (e : Int), e + k = n → e ≤ tru b n c k e ∧ tru b n c k e ≤ n ∧ (∀ i, e ≤ i → i < tru b n c k e → tkd (b i) = c) ∧ (tru b n c k e < n → tkd (b (tru b n c k e)) ≠ c)
  | 0, e, h => ⟨Int.le_refl _, by show e ≤ n; omega, fun i h1 h2 => by have : i < e := h2; omega, fun q => by have : e < n := q; omega⟩
  | k + 1, e, h => by
    unfold tru
    split
    · rename_i q
      have i := tru_bd (b := b) (n := n) (c := c) k (e + 1) (by omega)
      refine ⟨by omega, i.2.1, fun j h1 h2 => ?_, i.2.2.2⟩
      by_cases x : j = e
      · rw [x]; exact q
      · exact i.2.2.1 j (by omega) h2
    · rename_i q
      exact ⟨Int.le_refl _, by omega, fun i h1 h2 => by omega, fun _ => q⟩
theorem tkd_2 {v : Int} (h : tkd v = 2) : 48 ≤ v ∧ v ≤ 57 := by
  unfold tkd at h
  repeat' split at h
  all_goals omega
theorem tkd_1 {v : Int} (h : tkd v = 1) : 97 ≤ v ∧ v ≤ 122 := by
  unfold tkd at h
  repeat' split at h
  all_goals omega
theorem tnu_bd {b : Int → Int} {f : Int} : ∀ (k : Nat), (∀ i, f ≤ i → i < f + k → 48 ≤ b i ∧ b i ≤ 57) → k ≤ 4 → 0 ≤ tnu b f k ∧ (k ≤ 0 → tnu b f k ≤ 0) ∧ (k ≤ 1 → tnu b f k ≤ 9) ∧ (k ≤ 2 → tnu b f k ≤ 99) ∧ (k ≤ 3 → tnu b f k ≤ 999) ∧ tnu b f k ≤ 9999
  | 0, _, _ => by unfold tnu; omega
  | k + 1, h, hk => by
    have i := tnu_bd k (fun i h1 h2 => h i h1 (by omega)) (by omega)
    have d := h (f + k) (by omega) (by omega)
    unfold tnu
    omega
/-- the token that begins behind p -/
theorem tok_bd {b : Int → Int} {n p : Int} (hp : 0 ≤ p ∧ p ≤ n) (hb : ∀ i, 0 ≤ i → i < n → 0 ≤ b i ∧ b i ≤ 255) : p ≤ tF b n p ∧ tF b n p ≤ tE0 b n p ∧ tE0 b n p ≤ n ∧ (tF b n p < n → tF b n p < tE0 b n p) := by
  have h := tf_bd (b := b) (n := n) (n - p).toNat p (by omega)
  have e : tF b n p = tf b n (n - p).toNat p := rfl
  rw [← e] at h
  unfold tE0
  by_cases q : tF b n p < n
  · rw [if_pos q]
    by_cases q2 : tK0 b n p = 1 ∨ tK0 b n p = 2
    · rw [if_pos q2]
      have i := tru_bd (b := b) (n := n) (c := tK0 b n p) (n - (tF b n p + 1)).toNat (tF b n p + 1) (by omega)
      omega
    · rw [if_neg q2]; omega
  · rw [if_neg q]; omega
section TK
variable {D : vD} {E : Int → Int} {z : vZs} {m m' : vm_M}
def vTk (k : Nat) (_ : Int) : Bool := Nat.beq k 20
theorem vTk_n {k : Nat} {i : Int} (h : k ≠ 20) : vTk k i = false := Bool.eq_false_iff.mpr (fun q => h (vm_beq q))
def TKx (z : vZs) (p : Int) (m : vm_M) : Prop := m 20 1 = tKd (zb z) (zn z) p ∧ m 20 2 = tF (zb z) (zn z) p ∧ m 20 3 = tE0 (zb z) (zn z) p ∧ (tKd (zb z) (zn z) p = 2 → m 20 4 = tN (zb z) (zn z) p)
theorem sx_byteAt {Q : Int → vm_M → Prop} (hZ : ZO D z) (hT : XT z m) {i : Int} (h : Q (tb (zb z) (zn z) i) m) : vm_C 85 [vm_r 1, vm_i i] m (vm_qi Q) := by
  have hn := hZ.1
  unfold tb at h
  refine ru7_byteAt_0 ⟨fun q => ?_, fun q => ?_⟩
  · rw [if_neg (by omega)] at h; exact h
  · rw [hT.1]
    refine ⟨fun q2 => ?_, fun q2 => ⟨by omega, ?_⟩⟩
    · rw [if_neg (by omega)] at h; exact h
    · rw [if_pos (by omega)] at h
      rw [hT.2 i (by omega) (by omega)]; exact h
theorem sx_kindOf {Q : Int → vm_M → Prop} {v : Int} (h : Q (tkd v) m) : vm_C 94 [vm_i v] m (vm_qi Q) := by
  have k : ∀ c, tkd v = c → Q c m := fun c e => e ▸ h
  have n4 : ¬ v = -1 → ¬ (97 ≤ v ∧ v ≤ 122) → ¬ (48 ≤ v ∧ v ≤ 57) → (¬ v = 59 → Q 4 m) ∧ (¬ ¬ v = 59 → Q 3 m) := fun q1 q2 q3 => by
    refine ⟨fun q4 => k 4 ?_, fun q4 => k 3 ?_⟩
    · unfold tkd; rw [if_neg q1, if_neg q2, if_neg q3, if_neg q4]
    · unfold tkd; rw [if_neg q1, if_neg q2, if_neg q3, if_pos (Decidable.not_not.mp q4)]
  have n2 : ¬ v = -1 → ¬ (97 ≤ v ∧ v ≤ 122) → 48 ≤ v ∧ v ≤ 57 → Q 2 m := fun q1 q2 q3 => k 2 (by unfold tkd; rw [if_neg q1, if_neg q2, if_pos q3])
  refine ru8_kindOf_0 ⟨fun q1 => ⟨fun q2 => ⟨fun q3 => n4 q1 (by omega) (by omega), fun q3 => ⟨fun q4 => n4 q1 (by omega) (by omega), fun q4 => n2 q1 (by omega) (by omega)⟩⟩, fun q2 => ⟨fun q3 => ⟨fun q4 => n4 q1 (by omega) (by omega), fun q4 => ⟨fun q5 => n4 q1 (by omega) (by omega), fun q5 => n2 q1 (by omega) (by omega)⟩⟩, fun q3 => k 1 ?_⟩⟩, fun q1 => k 0 ?_⟩
  · unfold tkd; rw [if_neg q1, if_pos ⟨by omega, by omega⟩]
  · unfold tkd; rw [if_pos (Decidable.not_not.mp q1)]
theorem sx_tdig {Q : vm_M → Prop} (hZ : ZO D z) (hT : XT z m) {f e : Int} (hf : 0 ≤ f) (he : f ≤ e) (hn : e ≤ zn z) (h2 : m 20 2 = f) (h3 : m 20 3 = e) (hd : ∀ i, f ≤ i → i < e → 48 ≤ zb z i ∧ zb z i ≤ 57) (h : ∀ m', vfr vTk m m' → m' 20 1 = (if 4 < e - f then 4 else m 20 1) → m' 20 2 = f → m' 20 3 = e → (¬ 4 < e - f → m' 20 4 = tnu (zb z) f (e - f).toNat) → Q m') : vm_C 93 [vm_r 20] m (vm_qv Q) := by
  have hN := hZ.1
  refine ru8_readDigits_0 ?_
  rw [h2, h3]
  refine ⟨by omega, fun q => ?_, fun q => ?_⟩
  · have go : ∀ (k j : Nat) (m2 : vm_M), f + j + k = e → vfr vTk m m2 → m2 20 1 = m 20 1 → m2 20 2 = f → m2 20 3 = e → m2 20 4 = tnu (zb z) f j → ku8_readDigits_29 (f + j) m2 Q := by
      intro k
      induction k with
      | zero =>
        intro j m2 hj f2 g1 g2 g3 g4
        refine ru8_readDigits_29 ⟨fun _ => h m2 f2 ?_ g2 g3 (fun _ => ?_), fun q => by omega⟩
        · rw [if_neg (by omega)]; exact g1
        · rw [show (e - f).toNat = j by omega]; exact g4
      | succ k ih =>
        intro j m2 hj f2 g1 g2 g3 g4
        have hb := tnu_bd (b := zb z) (f := f) j (fun i h1 h2 => hd i h1 (by omega)) (by omega)
        have d := hd (f + j) (by omega) (by omega)
        refine ru8_readDigits_29 ⟨fun q => by omega, fun _ => ?_⟩
        rw [g4]
        refine ⟨by omega, sx_byteAt hZ (hT.fr f2 (fun k i a => vTk_n (by omega))) ?_⟩
        rw [show tb (zb z) (zn z) (f + j) = zb z (f + j) from if_pos ⟨by omega, by omega⟩]
        refine ⟨by omega, ?_⟩
        have := ih (j + 1) (vm_st m2 20 4 (tnu (zb z) f j * 10 + zb z (f + j) - 48)) (by omega) (f2.st rfl) (by rw [vst_i (by decide)]; exact g1) (by rw [vst_i (by decide)]; exact g2) (by rw [vst_i (by decide)]; exact g3) (vst_s _ _ _ _)
        rw [show f + ((j + 1 : Nat) : Int) = f + j + 1 by omega] at this
        exact this
    have e2 : vm_st m 20 4 0 20 2 = f := by rw [vst_i (by decide)]; exact h2
    rw [e2]
    have := go (e - f).toNat 0 (vm_st m 20 4 0) (by omega) (vfr.rf.st rfl) (vst_i (by decide)) e2 (by rw [vst_i (by decide)]; exact h3) (vst_s _ _ _ _)
    rw [show f + ((0 : Nat) : Int) = f by omega] at this
    exact this
  · refine h _ (vfr.rf.st rfl) ?_ (by rw [vst_i (by decide)]; exact h2) (by rw [vst_i (by decide)]; exact h3) (fun x => by omega)
    rw [vst_s, if_pos (by omega)]
theorem sx_advance {Q : vm_M → Prop} (hZ : ZO D z) (hT : XT z m) {p : Int} (hp : 0 ≤ p ∧ p ≤ zn z) (h3 : m 20 3 = p) (h : ∀ m', vfr vTk m m' → TKx z p m' → Q m') : vm_C 89 [vm_r 20] m (vm_qv Q) := by
  have hN := hZ.1
  have hb := hZ.2.1
  have hf := tf_bd (b := zb z) (n := zn z) (zn z - p).toNat p (by omega)
  have ef : tF (zb z) (zn z) p = tf (zb z) (zn z) (zn z - p).toNat p := rfl
  have htk := tok_bd hp hb
  have hT2 : ∀ m2, vfr vTk m m2 → XT z m2 := fun m2 f => hT.fr f (fun k i a => vTk_n (by omega))
  generalize hF : tF (zb z) (zn z) p = F at *
  have k0 : tK0 (zb z) (zn z) p = tkd (tb (zb z) (zn z) F) := by unfold tK0; rw [hF]
  have digs : ∀ e, tK0 (zb z) (zn z) p = 2 → e = tE0 (zb z) (zn z) p → ∀ i, F ≤ i → i < e → 48 ≤ zb z i ∧ zb z i ≤ 57 := fun e q he i h1 h2 => by
    have hlt : F < zn z := by
      refine Decidable.byContradiction (fun x => ?_)
      rw [k0] at q
      unfold tb at q
      rw [if_neg (by omega)] at q
      exact absurd q (by decide)
    by_cases x : i = F
    · rw [k0] at q
      unfold tb at q
      rw [if_pos ⟨by omega, hlt⟩] at q
      rw [x]; exact tkd_2 q
    · unfold tE0 at he
      rw [hF, if_pos hlt, if_pos (Or.inr q), q] at he
      have := (tru_bd (b := zb z) (n := zn z) (c := 2) (zn z - (F + 1)).toNat (F + 1) (by omega)).2.2.1 i (by omega) (by rw [← he]; exact h2)
      exact tkd_2 this
  -- the end, kind c
  have fin : ∀ m2, vfr vTk m m2 → m2 20 1 = tK0 (zb z) (zn z) p → m2 20 2 = F → m2 20 3 = tE0 (zb z) (zn z) p → (¬ m2 20 1 = 2 → Q m2) ∧ (¬ ¬ m2 20 1 = 2 → vm_C 93 [vm_r 20] m2 (vm_qv (fun m3 => Q m3))) := fun m2 f2 g1 g2 g3 => by
    rw [g1]
    refine ⟨fun q => h m2 f2 ⟨?_, ?_, g3, fun x => ?_⟩, fun q => ?_⟩
    · rw [g1]; unfold tKd; rw [if_neg (fun x => q x.1)]
    · rw [g2, hF]
    · unfold tKd at x; rw [if_neg (fun x => q x.1)] at x; exact absurd x q
    · have q := Decidable.not_not.mp q
      refine sx_tdig hZ (hT2 m2 f2) (by omega) htk.2.1 htk.2.2.1 g2 g3 (digs _ q rfl) (fun m3 f3 a1 a2 a3 a4 => h m3 (f2.tr f3) ⟨?_, by rw [a2, hF], a3, fun x => ?_⟩)
      · rw [a1, g1]; unfold tKd; rw [hF]
        by_cases y : 4 < tE0 (zb z) (zn z) p - F
        · rw [if_pos y, if_pos ⟨q, y⟩]
        · rw [if_neg y, if_neg (fun w => y w.2)]
      · unfold tKd at x
        rw [hF] at x
        have y : ¬ 4 < tE0 (zb z) (zn z) p - F := fun y => by rw [if_pos ⟨q, y⟩] at x; exact absurd x (by decide)
        rw [a4 y]; unfold tN; rw [hF]
  -- the run
  have run : ∀ (k : Nat) (e : Int) (m2 : vm_M), F < e → e + k = zn z → vfr vTk m m2 → m2 20 1 = tK0 (zb z) (zn z) p → m2 20 2 = F → m2 20 3 = e → tru (zb z) (zn z) (tK0 (zb z) (zn z) p) k e = tE0 (zb z) (zn z) p → ku8_advance_117 m2 Q := by
    intro k
    induction k with
    | zero =>
      intro e m2 he hk f2 g1 g2 g3 hr
      have hr : e = tE0 (zb z) (zn z) p := hr
      have := fin m2 f2 g1 g2 (by rw [g3]; exact hr)
      refine ru8_advance_117 ⟨fun _ => this, fun x => ?_⟩
      rw [(hT2 m2 f2).1, g3] at x
      omega
    | succ k ih =>
      intro e m2 he hk f2 g1 g2 g3 hr
      have T2 := hT2 m2 f2
      refine ru8_advance_117 ?_
      rw [T2.1, g3]
      refine ⟨fun x => by omega, fun _ => sx_byteAt hZ T2 (sx_kindOf ?_)⟩
      rw [show tb (zb z) (zn z) e = zb z e from if_pos ⟨by omega, by omega⟩, g1]
      unfold tru at hr
      refine ⟨fun x => ?_, fun x => ⟨by omega, ?_⟩⟩
      · rw [if_neg x] at hr
        have := fin m2 f2 g1 g2 (by rw [g3]; exact hr)
        rw [g1] at this
        exact this
      · rw [if_pos (Decidable.not_not.mp x)] at hr
        exact ih (e + 1) _ (by omega) (by omega) (f2.st rfl) (by rw [vst_i (by decide)]; exact g1) (by rw [vst_i (by decide)]; exact g2) (by rw [vst_s, g3]) hr
  have skip : ∀ (k : Nat) (q : Int) (m2 : vm_M), 0 ≤ q → q + k = zn z → vfr vTk m m2 → m2 20 2 = q → tf (zb z) (zn z) k q = F → ku8_advance_8 m2 Q := by
    intro k
    induction k with
    | zero =>
      intro q m2 hq hk f2 g2 hr
      have hr : q = F := hr
      have T2 := hT2 m2 f2
      have eK : tK0 (zb z) (zn z) p = 0 := by
        rw [k0]; unfold tb; rw [if_neg (by omega)]; rfl
      have eE : tE0 (zb z) (zn z) p = F := by unfold tE0; rw [hF, if_neg (by omega)]
      refine ru8_advance_8 ?_
      rw [T2.1, g2, hr]
      refine ⟨fun _ => sx_byteAt hZ T2 (sx_kindOf ?_), fun x => by omega⟩
      rw [← k0]
      have f3 : vfr vTk m (vm_st m2 20 1 (tK0 (zb z) (zn z) p)) := f2.st rfl
      have e1 : vm_st m2 20 1 (tK0 (zb z) (zn z) p) 1 1 = zn z := by rw [vst_k (by decide)]; exact T2.1
      have e2 : vm_st m2 20 1 (tK0 (zb z) (zn z) p) 20 2 = F := by rw [vst_i (by decide), g2, hr]
      have e0 : vm_st m2 20 1 (tK0 (zb z) (zn z) p) 20 1 = tK0 (zb z) (zn z) p := vst_s _ _ _ _
      generalize vm_st m2 20 1 (tK0 (zb z) (zn z) p) = M at *
      rw [e1, e2]
      have e3 : vm_st M 20 3 F 20 1 = tK0 (zb z) (zn z) p := by rw [vst_i (by decide)]; exact e0
      have := fin (vm_st M 20 3 F) (f3.st rfl) e3 (by rw [vst_i (by decide)]; exact e2) (by rw [vst_s, eE])
      rw [e3, eK] at this ⊢
      exact ⟨fun _ => ⟨fun x => absurd x (by decide), fun _ => ⟨fun _ => this, fun x => absurd (show ¬ (0 : Int) = 2 by decide) x⟩⟩, fun x => by omega⟩
    | succ k ih =>
      intro q m2 hq hk f2 g2 hr
      have T2 := hT2 m2 f2
      have eb : tb (zb z) (zn z) q = zb z q := if_pos ⟨by omega, by omega⟩
      have hbq := hb q hq (by omega)
      unfold tf at hr
      refine ru8_advance_8 ?_
      rw [T2.1, g2]
      have white : zb z q = 32 ∨ zb z q = 10 → vm_32 (q + 1) ∧ ku8_advance_8 (vm_st m2 20 2 (q + 1)) Q := fun w => by
        rw [if_pos w] at hr
        exact ⟨by omega, ih (q + 1) _ (by omega) (by omega) (f2.st rfl) (vst_s _ _ _ _) hr⟩
      refine ⟨fun x => by omega, fun _ => sx_byteAt hZ T2 (ru7_isWhite_0 ?_)⟩
      rw [eb, g2]
      refine ⟨fun w => ⟨fun x => absurd x (by decide), fun _ => white (Or.inl w)⟩, fun w => ⟨fun w2 => ⟨fun _ => ?_, fun x => absurd rfl x⟩, fun w2 => ⟨fun x => absurd x (by decide), fun _ => white (Or.inr (Decidable.not_not.mp w2))⟩⟩⟩
      rw [if_neg (by omega)] at hr
      have hr : q = F := hr
      refine sx_byteAt hZ T2 (sx_kindOf ?_)
      rw [hr, ← k0]
      have f3 : vfr vTk m (vm_st m2 20 1 (tK0 (zb z) (zn z) p)) := f2.st rfl
      have e1 : vm_st m2 20 1 (tK0 (zb z) (zn z) p) 1 1 = zn z := by rw [vst_k (by decide)]; exact T2.1
      have e2 : vm_st m2 20 1 (tK0 (zb z) (zn z) p) 20 2 = F := by rw [vst_i (by decide), g2, hr]
      have e0 : vm_st m2 20 1 (tK0 (zb z) (zn z) p) 20 1 = tK0 (zb z) (zn z) p := vst_s _ _ _ _
      generalize vm_st m2 20 1 (tK0 (zb z) (zn z) p) = M at *
      rw [e1, e2]
      have e3 : vm_st M 20 3 (F + 1) 20 1 = tK0 (zb z) (zn z) p := by rw [vst_i (by decide)]; exact e0
      have e4 : vm_st M 20 3 (F + 1) 20 2 = F := by rw [vst_i (by decide)]; exact e2
      refine ⟨fun x => by omega, fun _ => ⟨by omega, ?_⟩⟩
      have r : tK0 (zb z) (zn z) p = 1 ∨ tK0 (zb z) (zn z) p = 2 → ku8_advance_117 (vm_st M 20 3 (F + 1)) Q := fun y => by
        refine run (zn z - (F + 1)).toNat (F + 1) _ (by omega) (by omega) (f3.st rfl) e3 e4 (vst_s _ _ _ _) ?_
        unfold tE0
        rw [hF, if_pos (by omega), if_pos y]
      have fi : ¬ (tK0 (zb z) (zn z) p = 1 ∨ tK0 (zb z) (zn z) p = 2) → _ := fun y => fin (vm_st M 20 3 (F + 1)) (f3.st rfl) e3 e4 (by
        rw [vst_s]; unfold tE0; rw [hF, if_pos (by omega), if_neg y])
      rw [e3] at fi ⊢
      exact ⟨fun y => r (Or.inl y), fun y1 => ⟨fun y2 => fi (fun w => by omega), fun y2 => r (Or.inr (Decidable.not_not.mp y2))⟩⟩
  refine ru8_advance_0 ?_
  rw [h3]
  exact skip (zn z - p).toNat p _ hp.1 (by omega) (vfr.rf.st rfl) (vst_s _ _ _ _) ef.symm
end TK
