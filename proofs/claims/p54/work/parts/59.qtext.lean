/-! ===== texts that are written: bytes, words, numbers ===== -/
def em (s : Int × Int × Int) (b : Int) : Int × Int × Int := (s.1 + 1, s.2.1, if s.1 = s.2.1 then b else s.2.2)
def ems (s : Int × Int × Int) (l : List Int) : Int × Int × Int := l.foldl em s
theorem ems_nil {s : Int × Int × Int} : ems s [] = s := rfl
theorem ems_cons {s : Int × Int × Int} {b : Int} {l : List Int} : ems s (b :: l) = ems (em s b) l := rfl
theorem ems_app {s : Int × Int × Int} {a b : List Int} : ems (ems s a) b = ems s (a ++ b) := by unfold ems; rw [List.foldl_append]
theorem ems_1 {s : Int × Int × Int} {l : List Int} : (ems s l).1 = s.1 + l.length := by
  induction l generalizing s with
  | nil => rw [ems_nil]; simp
  | cons b l ih => rw [ems_cons, ih]; unfold em; simp only [List.length_cons]; omega
def vSi (s : Int × Int × Int) (m : vm_M) : Prop := m 85 0 = s.1 ∧ m 85 1 = s.2.1 ∧ m 85 2 = s.2.2
def vMi (s : Int × Int × Int) (m : vm_M) : Prop := m 96 41 = s.1 ∧ m 96 42 = s.2.1 ∧ m 96 43 = s.2.2
def vS85 (k : Nat) (_ : Int) : Bool := Nat.beq k 85
def vSs (k : Nat) (i : Int) : Bool := Nat.beq k 96 && decide (41 ≤ i ∧ i ≤ 43)
/-- room for a text -/
def vfit (s : Int × Int × Int) (l : List Int) : Prop := 0 ≤ s.1 ∧ s.1 + l.length ≤ 2000000000
theorem vfit_l {s : Int × Int × Int} {a b : List Int} (h : vfit s (a ++ b)) : vfit s a := by
  unfold vfit at *
  rw [List.length_append] at h
  omega
theorem vfit_r {s : Int × Int × Int} {a b : List Int} (h : vfit s (a ++ b)) : vfit (ems s a) b := by
  unfold vfit at *
  rw [List.length_append] at h
  rw [ems_1]
  omega
def vten : Nat → Int
  | 0 => 1
  | k + 1 => 10 * vten k
def vnd (n : Int) : Nat → Int → List Int
  | 0, _ => []
  | k + 1, u => if u ≤ 0 then [] else (48 + n / u % 10) :: vnd n k (u / 10)
def vnu (n : Int) : Int := if n < 10 then 1 else if n < 100 then 10 else if n < 1000 then 100 else if n < 10000 then 1000 else 10000
/-- a number in decimal -/
def vnum (n : Int) : List Int := vnd n 6 (vnu n)
theorem vnd_len {n : Int} : ∀ (k : Nat) (u : Int), (vnd n k u).length ≤ k
  | 0, u => Nat.le_refl _
  | k + 1, u => by
    unfold vnd
    split
    · exact Nat.zero_le _
    · have := vnd_len (n := n) k (u / 10)
      rw [List.length_cons]; omega
theorem vnum_len (n : Int) : (vnum n).length ≤ 6 := vnd_len 6 _
theorem vnu_bd {n : Int} : 1 ≤ vnu n ∧ vnu n ≤ 10000 := by
  unfold vnu
  repeat' split
  all_goals omega
def vwc (w k : Int) : Int := vm_w32 (vm_land (vm_lshr w k) 31)
def vwl0 (w : Int) : Nat → Int → List Int
  | 0, _ => []
  | n + 1, k => if vwc w k ≤ 0 then vwl0 w n (k - 5) else (96 + vwc w k) :: vwl0 w n (k - 5)
def vwok (w : Int) : Nat → Int → Bool
  | 0, _ => true
  | n + 1, k => decide (0 ≤ vwc w k ∧ vwc w k ≤ 31) && vwok w n (k - 5)
section QT
variable {D : vD} {E : Int → Int} {m m' : vm_M} {s : Int × Int × Int}
theorem sx_add {Q : vm_M → Prop} {b : Int} (hs : vSi s m) (hf : vfit s [b]) (h : ∀ m', vfr vS85 m m' → vSi (ems s [b]) m' → Q m') : vm_C 79 [vm_r 85, vm_i b] m (vm_qv Q) := by
  have hf1 : 0 ≤ s.1 ∧ s.1 + 1 ≤ 2000000000 := hf
  have t : ∀ i, vS85 85 i = true := fun i => rfl
  have e : ems s [b] = (s.1 + 1, s.2.1, if s.1 = s.2.1 then b else s.2.2) := rfl
  refine ru6_add_0 ?_
  rw [vst_i (by decide), hs.1, hs.2.1]
  refine ⟨fun q => ⟨by omega, h _ (vfr.rf.st (t _)) ?_⟩, fun q => ⟨by omega, h _ ((vfr.rf.st (t _)).st (t _)) ?_⟩⟩
  · rw [e, if_neg q]
    exact ⟨vst_s _ _ _ _, by rw [vst_i (by decide)]; exact hs.2.1, by rw [vst_i (by decide)]; exact hs.2.2⟩
  · rw [e, if_pos (Classical.not_not.mp q)]
    exact ⟨vst_s _ _ _ _, by rw [vst_i (by decide), vst_i (by decide)]; exact hs.2.1, by rw [vst_i (by decide), vst_s]⟩
theorem sx_str {Q : vm_M → Prop} {k : Nat} (hk : k < 29) (hs : vSi s m) (hf : vfit s (vm_strL.getD k [])) (h : ∀ m', vfr vS85 m m' → vSi (ems s (vm_strL.getD k [])) m' → Q m') : vm_C 80 [vm_r 85, vm_r (1000 + k)] m (vm_qv Q) := by
  have en : vm_sn (1000 + k) = ((vm_strL.getD k []).length : Int) := by unfold vm_sn; rw [Nat.add_sub_cancel_left]
  have ec : ∀ j : Int, vm_sc (1000 + k) j = (vm_strL.getD k []).getD j.toNat 0 := fun j => by unfold vm_sc; rw [Nat.add_sub_cancel_left]
  generalize vm_strL.getD k [] = l at *
  have hfl := hf.2
  have hf0 := hf.1
  have go : ∀ (n j : Nat) (m1 : vm_M), j + n = l.length → vfr vS85 m m1 → vSi (ems s (l.take j)) m1 → ku6_addText_2 (1000 + k) j m1 Q := by
    intro n
    induction n with
    | zero =>
      intro j m1 hj f1 s1
      refine ru6_addText_2 ⟨⟨by omega, by have : vm_sN = 48 := rfl; omega⟩, fun _ => ?_, fun q => by rw [en] at q; omega⟩
      rw [show l.take j = l from List.take_of_length_le (by omega)] at s1
      exact h m1 f1 s1
    | succ n ih =>
      intro j m1 hj f1 s1
      refine ru6_addText_2 ⟨⟨by omega, by have : vm_sN = 48 := rfl; omega⟩, fun q => by rw [en] at q; omega, fun _ => ⟨⟨⟨by omega, by have : vm_sN = 48 := rfl; omega⟩, by rw [en]; omega⟩, ?_⟩⟩
      refine sx_add s1 ?_ (fun m2 f2 s2 => ⟨by omega, ih (j + 1) m2 (by omega) (f1.tr f2) ?_⟩)
      · unfold vfit
        rw [ems_1, List.length_take]
        simp only [List.length_cons, List.length_nil]
        omega
      · rw [ems_app] at s2
        have : l.take (j + 1) = l.take j ++ [vm_sc (1000 + k) (j : Int)] := by
          rw [ec, Int.toNat_natCast, List.take_succ_eq_append_getElem (by omega)]
          congr 1
          rw [List.getD_eq_getElem?_getD, List.getElem?_eq_getElem (by omega)]
          rfl
        rw [this]; exact s2
  exact ru6_addText_0 (go l.length 0 m (Nat.zero_add _) vfr.rf (by rw [List.take_zero, ems_nil]; exact hs))
theorem sx_digits {Q : vm_M → Prop} {n u : Int} (hn : 0 ≤ n ∧ n ≤ 99999) : ∀ (k : Nat) (v : Int) (m : vm_M) (s : Int × Int × Int), 0 ≤ v → v < vten k → v ≤ 10000 → vSi s m → vfit s (vnd n k v) → (∀ m', vfr vS85 m m' → vSi (ems s (vnd n k v)) m' → Q m') → ku6_addNumber_31 n u v m Q := by
  intro k
  induction k with
  | zero =>
    intro v m s h0 hv hv2 hs hf h
    have hv : v < 1 := hv
    exact ru6_addNumber_31 ⟨fun _ => h m vfr.rf hs, fun q => by omega⟩
  | succ k ih =>
    intro v m s h0 hv hv2 hs hf h
    have hv : v < 10 * vten k := hv
    unfold vnd at hf h
    by_cases q : v ≤ 0
    · rw [if_pos q] at h
      exact ru6_addNumber_31 ⟨fun _ => h m vfr.rf hs, fun z => absurd q z⟩
    · rw [if_neg q] at hf h
      have hd := Int.ediv_nonneg hn.1 h0
      refine ru6_addNumber_31 ⟨fun z => absurd z q, fun _ => ⟨⟨⟨hn.1, by omega⟩, ⟨hd, by decide⟩, by omega⟩, ?_⟩⟩
      have hf1 : vfit s ([48 + n / v % 10] ++ vnd n k (v / 10)) := hf
      refine sx_add hs (vfit_l hf1) (fun m1 f1 s1 => ⟨⟨h0, by decide⟩, ih (v / 10) m1 _ (by omega) (by omega) (by omega) s1 (vfit_r hf1) (fun m2 f2 s2 => h m2 (f1.tr f2) ?_)⟩)
      rw [ems_app] at s2
      exact s2
theorem sx_num {Q : vm_M → Prop} {n : Int} (hn : 0 ≤ n ∧ n ≤ 99999) (hs : vSi s m) (hf : vfit s (vnum n)) (h : ∀ m', vfr vS85 m m' → vSi (ems s (vnum n)) m' → Q m') : vm_C 81 [vm_r 85, vm_i n] m (vm_qv Q) := by
  have hu := vnu_bd (n := n)
  have fin : ∀ u, u = vnu n → ku6_addNumber_31 n u u m Q := fun u e => by
    subst e
    exact sx_digits hn 6 (vnu n) m s (by omega) (by have : vten 6 = 1000000 := rfl; omega) hu.2 hs hf h
  refine ru6_addNumber_0 (ru6_addNumber_4 ⟨fun q => by omega, fun _ => ⟨⟨hn.1, by decide⟩, fun q => fin 1 ?_, fun q => ⟨by omega, ru6_addNumber_4 ⟨fun z => by omega, fun _ => ⟨⟨hn.1, by decide⟩, fun q2 => fin _ ?_, fun q2 => ⟨by omega, ru6_addNumber_4 ⟨fun z => by omega, fun _ => ⟨⟨hn.1, by decide⟩, fun q3 => fin _ ?_, fun q3 => ⟨by omega, ru6_addNumber_4 ⟨fun z => by omega, fun _ => ⟨⟨hn.1, by decide⟩, fun q4 => fin _ ?_, fun q4 => ⟨by omega, ru6_addNumber_4 ⟨fun z => by omega, fun _ => ⟨⟨hn.1, by decide⟩, fun q5 => fin _ ?_, fun q5 => by omega⟩⟩⟩⟩⟩⟩⟩⟩⟩⟩⟩⟩⟩⟩)
  · unfold vnu; rw [if_pos (by omega)]
  · unfold vnu; rw [if_neg (by omega), if_pos (by omega)]; rfl
  · unfold vnu; rw [if_neg (by omega), if_neg (by omega), if_pos (by omega)]; rfl
  · unfold vnu; rw [if_neg (by omega), if_neg (by omega), if_neg (by omega), if_pos (by omega)]; rfl
  · unfold vnu; rw [if_neg (by omega), if_neg (by omega), if_neg (by omega), if_neg (by omega)]; rfl
theorem vk_board : vwok 2590276 8 35 = true ∧ vwl0 2590276 8 35 = [98, 111, 97, 114, 100] := by decide
theorem vk_lead : vwok 398372 8 35 = true ∧ vwl0 398372 8 35 = [108, 101, 97, 100] := by decide
theorem vk_cap : vwok 3120 8 35 = true ∧ vwl0 3120 8 35 = [99, 97, 112] := by decide
theorem vk_gap : vwok 7216 8 35 = true ∧ vwl0 7216 8 35 = [103, 97, 112] := by decide
theorem vk_word : vwok 769604 8 35 = true ∧ vwl0 769604 8 35 = [119, 111, 114, 100] := by decide
theorem vk_size : vwok 632645 8 35 = true ∧ vwl0 632645 8 35 = [115, 105, 122, 101] := by decide
theorem vk_letter : vwok 408572082 8 35 = true ∧ vwl0 408572082 8 35 = [108, 101, 116, 116, 101, 114] := by decide
theorem vk_wide : vwok 763013 8 35 = true ∧ vwl0 763013 8 35 = [119, 105, 100, 101] := by decide
theorem vk_left : vwok 398548 8 35 = true ∧ vwl0 398548 8 35 = [108, 101, 102, 116] := by decide
theorem vk_right : vwok 19176724 8 35 = true ∧ vwl0 19176724 8 35 = [114, 105, 103, 104, 116] := by decide
theorem vk_open : vwok 508078 8 35 = true ∧ vwl0 508078 8 35 = [111, 112, 101, 110] := by decide
theorem vk_pair : vwok 525618 8 35 = true ∧ vwl0 525618 8 35 = [112, 97, 105, 114] := by decide
theorem vk_closer : vwok 113757362 8 35 = true ∧ vwl0 113757362 8 35 = [99, 108, 111, 115, 101, 114] := by decide
theorem vk_wider : vwok 24416434 8 35 = true ∧ vwl0 24416434 8 35 = [119, 105, 100, 101, 114] := by decide
end QT
