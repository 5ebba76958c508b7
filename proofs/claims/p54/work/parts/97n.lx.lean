/-! ===== x as the law sees it ===== -/
/-- at handle o there is an x: alphabet and setting D, numbers E, the rest z -/
def lO (D : vD) (E : Int → Int) (z : vZs) (o : Nat) (S : lwS) : Prop := OC D E ∧ ZO D z ∧ ∃ m, S.1 o = some (lbI m) ∧ XC D E m ∧ XR D z m
/-- nothing but what stands at o is another -/
def lsame (o : Nat) (S S' : lwS) : Prop := (∀ r, r ≠ o → S'.1 r = S.1 r) ∧ S'.2 = S.2
theorem lsame.rf {o : Nat} {S : lwS} : lsame o S S := ⟨fun _ _ => rfl, rfl⟩
theorem lsame.tr {o : Nat} {S S1 S2 : lwS} (h : lsame o S S1) (h2 : lsame o S1 S2) : lsame o S S2 := ⟨fun r hr => (h2.1 r hr).trans (h.1 r hr), h2.2.trans h.2⟩
theorem lsame.up {o : Nat} {S : lwS} {B : lwB} : lsame o S (lup S.1 o B, S.2) := ⟨fun r hr => lup_n hr, rfl⟩
theorem XR.q {D : vD} {z : vZs} {m m' : vm_M} (h : vfr vSX m m') (hZ : ZO D z) (hX : XR D z m) : XR D z m' := hX.fr h (fun k i a => vSX_n (by omega) (by omega)) (vSX_n (by decide) (by decide)) hZ.2.2.1
section LQ
variable {D : vD} {E : Int → Int} {z : vZs} {o : Nat} {S : lwS}
theorem lq {g : Nat} {as : List Int} {ans : Int} {P : Int → lwS → Prop} (hs : ∀ m, OC D E → XC D E m → vST m → ∀ Q : Int → vm_M → Prop, (∀ m', vfr vSX m m' → XC D E m' → Q ans m') → vm_C g (vm_r 0 :: as.map vm_i) m (vm_qi Q)) (h : lO D E z o S) (kk : ∀ S', lsame o S S' → lO D E z o S' → P ans S') : lNn g o as S P := by
  obtain ⟨h1, h2, m, h3, h4, h5⟩ := h
  exact ⟨m, h3, hs m h1 h4 h5.2.2.2.2 _ (fun m' f x => kk _ lsame.up ⟨h1, h2, m', lup_s _ _ _, x, h5.q f h2⟩)⟩
theorem lqf {g : Nat} {as : List Int} {ans : UInt32} {P : UInt32 → lwS → Prop} (hs : ∀ m, OC D E → XC D E m → vST m → ∀ Q : UInt32 → vm_M → Prop, (∀ m', vfr vSX m m' → XC D E m' → Q ans m') → vm_C g (vm_r 0 :: as.map vm_i) m (vm_qf Q)) (h : lO D E z o S) (kk : ∀ S', lsame o S S' → lO D E z o S' → P ans S') : lNf g o as S P := by
  obtain ⟨h1, h2, m, h3, h4, h5⟩ := h
  exact ⟨m, h3, hs m h1 h4 h5.2.2.2.2 _ (fun m' f x => kk _ lsame.up ⟨h1, h2, m', lup_s _ _ _, x, h5.q f h2⟩)⟩
theorem lqd {g : Nat} {as : List Int} {ans : UInt64} {P : UInt64 → lwS → Prop} (hs : ∀ m, OC D E → XC D E m → vST m → ∀ Q : UInt64 → vm_M → Prop, (∀ m', vfr vSX m m' → XC D E m' → Q ans m') → vm_C g (vm_r 0 :: as.map vm_i) m (vm_qd Q)) (h : lO D E z o S) (kk : ∀ S', lsame o S S' → lO D E z o S' → P ans S') : lNd g o as S P := by
  obtain ⟨h1, h2, m, h3, h4, h5⟩ := h
  exact ⟨m, h3, hs m h1 h4 h5.2.2.2.2 _ (fun m' f x => kk _ lsame.up ⟨h1, h2, m', lup_s _ _ _, x, h5.q f h2⟩)⟩
noncomputable def a_value (D : vD) (E : Int → Int) (w : Int) : Int := (if w = 6 then dC D else if w = 7 then E 6 else if w = 8 then E 7 else if w = 9 then vs (vtl D) 26 else if w = 10 then vs (vnz D) 676 else if w = 11 then dN D else if w = 12 then eQ D E else if w = 13 then vcl D 0 (dN D) else if 0 ≤ w ∧ w < 6 then E w else -1)
theorem lq_value {w : Int} {P : Int → lwS → Prop} (h : lO D E z o S) (kk : ∀ S', lsame o S S' → lO D E z o S' → P (a_value D E w) S') : lNn 115 o [w] S P :=
  lq (as := [w]) (fun m hO hX hs Q h => s_value hO hX  h) h kk
noncomputable def a_gapAt (D : vD) (E : Int → Int) (a : Int) (b : Int) (d : Int) : Int := (vif (dk D a ∧ dk D b ∧ -9 ≤ d ∧ d ≤ 99) (vog D a b d) (-1))
theorem lq_gapAt {a b d : Int} {P : Int → lwS → Prop} (h : lO D E z o S) (kk : ∀ S', lsame o S S' → lO D E z o S' → P (a_gapAt D E a b d) S') : lNn 118 o [a, b, d] S P :=
  lq (as := [a, b, d]) (fun m hO hX hs Q h => s_gapAt hO hX  h) h kk
noncomputable def a_distance (D : vD) (E : Int → Int) (a : Int) (b : Int) (g : Int) : Int := (vif (dk D a ∧ dk D b ∧ 0 ≤ g ∧ g ≤ dC D) (vcd D a b g + 9) (-1))
theorem lq_distance {a b g : Int} {P : Int → lwS → Prop} (h : lO D E z o S) (kk : ∀ S', lsame o S S' → lO D E z o S' → P (a_distance D E a b g) S') : lNn 119 o [a, b, g] S P :=
  lq (as := [a, b, g]) (fun m hO hX hs Q h => s_distance hO hX  h) h kk
noncomputable def a_correction (D : vD) (E : Int → Int) (a : Int) (b : Int) : Int := (vif (dk D a ∧ dk D b) (dK D (26 * a + b) + 9) (-1))
theorem lq_correction {a b : Int} {P : Int → lwS → Prop} (h : lO D E z o S) (kk : ∀ S', lsame o S S' → lO D E z o S' → P (a_correction D E a b) S') : lNn 120 o [a, b] S P :=
  lq (as := [a, b]) (fun m hO hX hs Q h => s_correction hO hX  h) h kk
noncomputable def a_extreme (D : vD) (E : Int → Int) (g : Int) : Int := (vex D (E 3) g 676).1
theorem lq_extreme {g : Int} {P : Int → lwS → Prop} (h : lO D E z o S) (kk : ∀ S', lsame o S S' → lO D E z o S' → P (a_extreme D E g) S') : lNn 121 o [g] S P :=
  lq (as := [g]) (fun m hO hX hs Q h => s_extreme hO hX  h) h kk
noncomputable def a_letter (D : vD) (E : Int → Int) (a : Int) (w : Int) : Int := (vif (dk D a) (if w = 0 then dW D a else if w = 1 then vs (vsd D a 0) 6 else if w = 2 then vs (vsd D a 1) 6 else if w = 3 then vs (vopn D a) 12 else if w = 4 then vs (vlto D a) (dN D).toNat else -1) (-1))
theorem lq_letter {a w : Int} {P : Int → lwS → Prop} (h : lO D E z o S) (kk : ∀ S', lsame o S S' → lO D E z o S' → P (a_letter D E a w) S') : lNn 117 o [a, w] S P :=
  lq (as := [a, w]) (fun m hO hX hs Q h => s_letter hO hX  h) h kk
noncomputable def a_row (D : vD) (E : Int → Int) (row : Int) (w : Int) : Int := (vif (yv D E row) (if w = 0 then yf D E row else if w = 1 then yt D E row - yf D E row else if w = 2 then vcl D (yf D E row) (yt D E row) else if w = 3 then yG D E (yf D E row) (yt D E row) else if w = 4 then yW D E (yf D E row) (yt D E row) else if w = 5 then y0 D E (yf D E row) (yt D E row) else if w = 6 then ylack E (yW D E (yf D E row) (yt D E row)) else if w = 7 then (if yt D E row - yf D E row = 1 then -2 else yS D E (yf D E row) (yt D E row)) else if w = 8 then (if yt D E row - yf D E row = 1 then -2 else yS D E (yf D E row) (yt D E row) + (if 0 < yX D E (yf D E row) (yt D E row) then 1 else 0)) else -1) (-1))
theorem lq_row {row w : Int} {P : Int → lwS → Prop} (h : lO D E z o S) (kk : ∀ S', lsame o S S' → lO D E z o S' → P (a_row D E row w) S') : lNn 128 o [row, w] S P :=
  lq (as := [row, w]) (fun m hO hX hs Q h => s_row hO hX  h) h kk
noncomputable def a_place (D : vD) (E : Int → Int) (row : Int) (i : Int) : Int := (vif (yv D E row ∧ 0 ≤ i) (if i < vcl D (yf D E row) (yt D E row) then ypl D E (yf D E row) (yt D E row) i + 1000 else -2) (-1))
theorem lq_place {row i : Int} (hi : vm_32 i) {P : Int → lwS → Prop} (h : lO D E z o S) (kk : ∀ S', lsame o S S' → lO D E z o S' → P (a_place D E row i) S') : lNn 130 o [row, i] S P :=
  lq (as := [row, i]) (fun m hO hX hs Q h => s_place hO hX hi h) h kk
noncomputable def a_fillGap (D : vD) (E : Int → Int) (row : Int) : Int := (vif (yv D E row) (yfg D E (yf D E row) (yt D E row)) (-1))
theorem lq_fillGap {row : Int} {P : Int → lwS → Prop} (h : lO D E z o S) (kk : ∀ S', lsame o S S' → lO D E z o S' → P (a_fillGap D E row) S') : lNn 145 o [row] S P :=
  lq (as := [row]) (fun m hO hX hs Q h => s_fillGap hO hX  h) h kk
noncomputable def a_word (D : vD) (E : Int → Int) (i : Int) (w : Int) : Int := (vif (0 ≤ i ∧ i < dN D) (if w = 0 then dL D i else if w = 1 then vww D (E 3) i * E 5 else if w = 2 then yro D E i (eQ D E) 0 else if w = 3 then (if yro D E i (eQ D E) 0 = -2 then -2 else i - eF D E (yro D E i (eQ D E) 0).toNat) else -1) (-1))
theorem lq_word {i w : Int} {P : Int → lwS → Prop} (h : lO D E z o S) (kk : ∀ S', lsame o S S' → lO D E z o S' → P (a_word D E i w) S') : lNn 125 o [i, w] S P :=
  lq (as := [i, w]) (fun m hO hX hs Q h => s_word hO hX  h) h kk
noncomputable def a_gap (D : vD) (E : Int → Int) (row : Int) (i : Int) : Int := (vif (yv D E row ∧ 0 ≤ i) (ygi D E (yf D E row) (yt D E row) i) (-1))
theorem lq_gap {row i : Int} (hi : vm_32 i) {P : Int → lwS → Prop} (h : lO D E z o S) (kk : ∀ S', lsame o S S' → lO D E z o S' → P (a_gap D E row i) S') : lNn 131 o [row, i] S P :=
  lq (as := [row, i]) (fun m hO hX hs Q h => s_gap hO hX hi h) h kk
noncomputable def a_letterAt (D : vD) (E : Int → Int) (row : Int) (i : Int) : Int := (vif (yv D E row ∧ 0 ≤ i) (if i < vcl D (yf D E row) (yt D E row) then ya D (yf D E row) i else -2) (-1))
theorem lq_letterAt {row i : Int} (hi : vm_32 i) {P : Int → lwS → Prop} (h : lO D E z o S) (kk : ∀ S', lsame o S S' → lO D E z o S' → P (a_letterAt D E row i) S') : lNn 129 o [row, i] S P :=
  lq (as := [row, i]) (fun m hO hX hs Q h => s_letterAt hO hX hi h) h kk
noncomputable def a_uneven (D : vD) (E : Int → Int) (row : Int) : Int := (vif (yv D E row) (if (yun D E (yf D E row) (yt D E row) (vcl D (yf D E row) (yt D E row)).toNat).1 = -2 then -2 else (yun D E (yf D E row) (yt D E row) (vcl D (yf D E row) (yt D E row)).toNat).2 - (yun D E (yf D E row) (yt D E row) (vcl D (yf D E row) (yt D E row)).toNat).1) (-1))
theorem lq_uneven {row : Int} {P : Int → lwS → Prop} (h : lO D E z o S) (kk : ∀ S', lsame o S S' → lO D E z o S' → P (a_uneven D E row) S') : lNn 132 o [row] S P :=
  lq (as := [row]) (fun m hO hX hs Q h => s_uneven hO hX  h) h kk
noncomputable def a_height (D : vD) (E : Int → Int) : Int := (bht (bR (eB D E)) (E 6) (E 5) (E 2))
theorem lq_height  {P : Int → lwS → Prop} (h : lO D E z o S) (kk : ∀ S', lsame o S S' → lO D E z o S' → P (a_height D E) S') : lNn 142 o [] S P :=
  lq (as := []) (fun m hO hX hs Q h => s_height hO hX  h) h kk
noncomputable def a_fits (D : vD) (E : Int → Int) : Int := (vif (bfits (bR (eB D E)) (E 6) (E 5) (E 2) (E 1)) 1 0)
theorem lq_fits  {P : Int → lwS → Prop} (h : lO D E z o S) (kk : ∀ S', lsame o S S' → lO D E z o S' → P (a_fits D E) S') : lNn 138 o [] S P :=
  lq (as := []) (fun m hO hX hs Q h => s_fits hO hX  h) h kk
noncomputable def a_cost (D : vD) (E : Int → Int) : Int := (if eQ D E = 0 then -2 else bcost (bR (eB D E)) (E 6))
theorem lq_cost  {P : Int → lwS → Prop} (h : lO D E z o S) (kk : ∀ S', lsame o S S' → lO D E z o S' → P (a_cost D E) S') : lNn 143 o [] S P :=
  lq (as := []) (fun m hO hX hs Q h => s_cost hO hX  h) h kk
noncomputable def a_leastCost (D : vD) (E : Int → Int) : Int := (if dN D = 0 then -2 else if kK (bR (eB D E)) 12 0 < 1000000000000000 then kK (bR (eB D E)) 12 0 else -2)
theorem lq_leastCost  {P : Int → lwS → Prop} (h : lO D E z o S) (kk : ∀ S', lsame o S S' → lO D E z o S' → P (a_leastCost D E) S') : lNn 144 o [] S P :=
  lq (as := []) (fun m hO hX hs Q h => s_leastCost hO hX  h) h kk
noncomputable def a_bestSize (D : vD) (E : Int → Int) : Int := (ygr (fun v => fitU D (eU E 5 v)) (9 - 1 + 1 : Int).toNat 9)
theorem lq_bestSize  {P : Int → lwS → Prop} (h : lO D E z o S) (kk : ∀ S', lsame o S S' → lO D E z o S' → P (a_bestSize D E) S') : lNn 139 o [] S P :=
  lq (as := []) (fun m hO hX hs Q h => s_bestSize hO hX hs h) h kk
noncomputable def a_bestGap (D : vD) (E : Int → Int) : Int := (ygr (fun v => fitU D (eU E 3 v)) (dC D - 0 + 1).toNat (dC D))
theorem lq_bestGap  {P : Int → lwS → Prop} (h : lO D E z o S) (kk : ∀ S', lsame o S S' → lO D E z o S' → P (a_bestGap D E) S') : lNn 140 o [] S P :=
  lq (as := []) (fun m hO hX hs Q h => s_bestGap hO hX  h) h kk
noncomputable def a_bestSwap (D : vD) (E : Int → Int) : Int := (if eQ D E = 0 then -2 else (ybi (eB D E) (E 6) (dN D).toNat 0 (-2, bcost (bR (eB D E)) (E 6))).1)
theorem lq_bestSwap  {P : Int → lwS → Prop} (h : lO D E z o S) (kk : ∀ S', lsame o S S' → lO D E z o S' → P (a_bestSwap D E) S') : lNn 146 o [] S P :=
  lq (as := []) (fun m hO hX hs Q h => s_bestSwap hO hX  h) h kk
noncomputable def a_viewLength (D : vD) (E : Int → Int) : Int := (ems (0, -1, -2) (vvt D E (eQ D E) 0)).1
theorem lq_viewLength  {P : Int → lwS → Prop} (h : lO D E z o S) (kk : ∀ S', lsame o S S' → lO D E z o S' → P (a_viewLength D E) S') : lNn 152 o [] S P :=
  lq (as := []) (fun m hO hX hs Q h => s_viewLength hO hX  h) h kk
noncomputable def a_viewByte (D : vD) (E : Int → Int) (i : Int) : Int := (if 0 ≤ i then (ems (0, i, -2) (vvt D E (eQ D E) 0)).2.2 else -1)
theorem lq_viewByte {i : Int} {P : Int → lwS → Prop} (h : lO D E z o S) (kk : ∀ S', lsame o S S' → lO D E z o S' → P (a_viewByte D E i) S') : lNn 153 o [i] S P :=
  lq (as := [i]) (fun m hO hX hs Q h => s_viewByte hO hX  h) h kk
noncomputable def a_setupLength (D : vD) (E : Int → Int) : Int := (ems (0, -1, -2) (vset D E)).1
theorem lq_setupLength  {P : Int → lwS → Prop} (h : lO D E z o S) (kk : ∀ S', lsame o S S' → lO D E z o S' → P (a_setupLength D E) S') : lNn 154 o [] S P :=
  lq (as := []) (fun m hO hX hs Q h => s_setupLength hO hX  h) h kk
noncomputable def a_setupByte (D : vD) (E : Int → Int) (i : Int) : Int := (if 0 ≤ i then (ems (0, i, -2) (vset D E)).2.2 else -1)
theorem lq_setupByte {i : Int} {P : Int → lwS → Prop} (h : lO D E z o S) (kk : ∀ S', lsame o S S' → lO D E z o S' → P (a_setupByte D E i) S') : lNn 155 o [i] S P :=
  lq (as := [i]) (fun m hO hX hs Q h => s_setupByte hO hX  h) h kk
noncomputable def a_spelled (D : vD) (E : Int → Int) (i : Int) (k : Int) : Int := (vif ((0 ≤ i ∧ i < dN D) ∧ 0 ≤ k) (if k < dL D i then dP D (12 * i + k) else -2) (-1))
theorem lq_spelled {i k : Int} {P : Int → lwS → Prop} (h : lO D E z o S) (kk : ∀ S', lsame o S S' → lO D E z o S' → P (a_spelled D E i k) S') : lNn 126 o [i, k] S P :=
  lq (as := [i, k]) (fun m hO hX hs Q h => s_spelled hO hX  h) h kk
noncomputable def a_full (D : vD) (E : Int → Int) (row : Int) : UInt32 := (yfull D E row)
theorem lq_full {row : Int} {P : UInt32 → lwS → Prop} (h : lO D E z o S) (kk : ∀ S', lsame o S S' → lO D E z o S' → P (a_full D E row) S') : lNf 150 o [row] S P :=
  lqf (as := [row]) (fun m hO hX hs Q h => s_full hO hX  h) h kk
noncomputable def a_meanGap (D : vD) (E : Int → Int) : UInt64 := (ymean D E)
theorem lq_meanGap  {P : UInt64 → lwS → Prop} (h : lO D E z o S) (kk : ∀ S', lsame o S S' → lO D E z o S' → P (a_meanGap D E) S') : lNd 151 o [] S P :=
  lqd (as := []) (fun m hO hX hs Q h => s_meanGap hO hX  h) h kk
theorem lq_leastInner {most : Int} {P : Int → lwS → Prop} (h : lO D E z o S) (kk : ∀ ans : Int, ((¬ (1 ≤ most ∧ most ≤ 12) → ans = -1) ∧ ((1 ≤ most ∧ most ≤ 12) → dN D = 0 → ans = -2) ∧ ((1 ≤ most ∧ most ≤ 12) → dN D ≠ 0 → (¬ benough (bJ (eB D E) 9999) most → ans = -2) ∧ (benough (bJ (eB D E) 9999) most → 10 ≤ ans ∧ ans ≤ 9999 ∧ benough (bJ (eB D E) ans) most ∧ ∀ x, 10 ≤ x → x < ans → ¬ benough (bJ (eB D E) x) most))) → ∀ S', lsame o S S' → lO D E z o S' → P ans S') : lNn 141 o [most] S P := by
  obtain ⟨h1, h2, m, h3, h4, h5⟩ := h
  have hs := h5.2.2.2.2
  have hO := h1
  have hX := h4
  have h : ∀ ans : Int, ((¬ (1 ≤ most ∧ most ≤ 12) → ans = -1) ∧ ((1 ≤ most ∧ most ≤ 12) → dN D = 0 → ans = -2) ∧ ((1 ≤ most ∧ most ≤ 12) → dN D ≠ 0 → (¬ benough (bJ (eB D E) 9999) most → ans = -2) ∧ (benough (bJ (eB D E) 9999) most → 10 ≤ ans ∧ ans ≤ 9999 ∧ benough (bJ (eB D E) ans) most ∧ ∀ x, 10 ≤ x → x < ans → ¬ benough (bJ (eB D E) x) most))) → ∀ m', vfr vSX m m' → XC D E m' → P ans (lup S.1 o (lbI m'), S.2) := fun v9 e9 m' f x => kk v9 e9 _ lsame.up ⟨h1, h2, m', lup_s _ _ _, x, h5.q f h2⟩
  exact ⟨m, h3, s_leastInner hO hX hs h⟩
theorem lq_bestCorrection {a b : Int} {P : Int → lwS → Prop} (h : lO D E z o S) (kk : ∀ B : Int, (dk D a ∧ dk D b → (-9 ≤ B ∧ B ≤ 9) ∧ ∀ v, -9 ≤ v → v ≤ 9 → yle (yof D a b (E 3) (vpd D a b (E 3))) B v) → ∀ S', lsame o S S' → lO D E z o S' → P (vif (dk D a ∧ dk D b) (B + 9) (-1)) S') : lNn 147 o [a, b] S P := by
  obtain ⟨h1, h2, m, h3, h4, h5⟩ := h
  have hs := h5.2.2.2.2
  have hO := h1
  have hX := h4
  have h : ∀ B : Int, (dk D a ∧ dk D b → (-9 ≤ B ∧ B ≤ 9) ∧ ∀ v, -9 ≤ v → v ≤ 9 → yle (yof D a b (E 3) (vpd D a b (E 3))) B v) → ∀ m', vfr vSX m m' → XC D E m' → P (vif (dk D a ∧ dk D b) (B + 9) (-1)) (lup S.1 o (lbI m'), S.2) := fun v9 e9 m' f x => kk v9 e9 _ lsame.up ⟨h1, h2, m', lup_s _ _ _, x, h5.q f h2⟩
  exact ⟨m, h3, s_bestCorrection hO hX  h⟩
theorem lq_errorPosition {P : Int → lwS → Prop} (h : lO D E z o S) (kk : ∀ S', lsame o S S' → lO D E z o S' → P (ze z) S') : lNn 104 o [] S P := by
  obtain ⟨h1, h2, m, h3, h4, h5⟩ := h
  refine ⟨m, h3, ru10_errorPosition_0 ?_⟩
  rw [h5.2.1]
  exact kk _ lsame.up ⟨h1, h2, m, lup_s _ _ _, h4, h5⟩
theorem lq_tapeLength {P : Int → lwS → Prop} (h : lO D E z o S) (kk : ∀ S', lsame o S S' → lO D E z o S' → P (zn z) S') : lNn 156 o [] S P := by
  obtain ⟨h1, h2, m, h3, h4, h5⟩ := h
  refine ⟨m, h3, ru10_tapeLength_0 ?_⟩
  rw [h5.1.1]
  exact kk _ lsame.up ⟨h1, h2, m, lup_s _ _ _, h4, h5⟩
end LQ
