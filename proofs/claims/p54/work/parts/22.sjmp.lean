/-! ===== steps: jumps and returns ===== -/
section VMS5
variable {p : Program} {l : Launch} {e : Env} {R : Room} {s : State} {m : MethodId} {args : Array Value} {below : List Frame} {meth : Method} {c : Code} {cells slots : Nat} {Q : State → Prop}
variable {dC : Nat → ClassId} {dI : Nat → Nat → Nat} {ad : Nat → Nat} {CA : Nat → ClassId} {A : Nat → Prop} {ph : Bool} {f d : Nat} {m0 : vm_M} {n0 : Nat}
theorem vm_s_goto (C : vm_Cx p R s m args meth c dC dI ad CA A f d m0 ph n0) {pc t : Nat} {o : Int} {ls : vm_L} {st : List vm_V} {mem : vm_M} (hd : decode (vm_cb f) pc = .ok (.goto o, 3)) (ht : (pc : Int) + o = (t : Int)) (K : vm_Wx p l e R s m args below meth c cells slots Q dC dI ad CA A ph f m0 n0 t ls st mem) : vm_Wx p l e R s m args below meth c cells slots Q dC dI ad CA A ph f m0 n0 pc ls st mem := by
  intro H locs lsa hat hol hos hom hox hl
  exact lv_goto C.1 C.2.1 hd ht (K H locs lsa hat hol hos hom hox hl)
theorem vm_s_ifnull (C : vm_Cx p R s m args meth c dC dI ad CA A f d m0 ph n0) {pc k : Nat} {o : Int} {ls : vm_L} {r : List vm_V} {mem : vm_M} (hd : decode (vm_cb f) pc = .ok (.ifnull o, 3)) (K : vm_Wx p l e R s m args below meth c cells slots Q dC dI ad CA A ph f m0 n0 (pc + 3) ls r mem) : vm_Wx p l e R s m args below meth c cells slots Q dC dI ad CA A ph f m0 n0 pc ls (vm_r k :: r) mem := by
  intro H locs lsa hat hol hos hom hox hl
  exact lv_ifnull C.1 C.2.1 hd (K H locs lsa hat hol hos.t hom hox hl)
theorem vm_s_ifnonnull (C : vm_Cx p R s m args meth c dC dI ad CA A f d m0 ph n0) {pc t k : Nat} {o : Int} {ls : vm_L} {r : List vm_V} {mem : vm_M} (hd : decode (vm_cb f) pc = .ok (.ifnonnull o, 3)) (ht : (pc : Int) + o = (t : Int)) (K : vm_Wx p l e R s m args below meth c cells slots Q dC dI ad CA A ph f m0 n0 t ls r mem) : vm_Wx p l e R s m args below meth c cells slots Q dC dI ad CA A ph f m0 n0 pc ls (vm_r k :: r) mem := by
  intro H locs lsa hat hol hos hom hox hl
  exact lv_ifnonnull C.1 C.2.1 hd ht (K H locs lsa hat hol hos.t hom hox hl)

theorem vm_s_icmp (C : vm_Cx p R s m args meth c dC dI ad CA A f d m0 ph n0) {cc : Jvm.ClassFile.Cond} {pc t : Nat} {o : Int} {ls : vm_L} {r : List vm_V} {mem : vm_M} {x y : Int} (hd : decode (vm_cb f) pc = .ok (.if_icmp cc o, 3)) (ht : (pc : Int) + o = (t : Int)) (K : vm_Wx p l e R s m args below meth c cells slots Q dC dI ad CA A ph f m0 n0 (cond (vm_cc cc x y) t (pc + 3)) ls r mem) : vm_Wx p l e R s m args below meth c cells slots Q dC dI ad CA A ph f m0 n0 pc ls (vm_i y :: vm_i x :: r) mem := by
  intro H locs lsa hat hol hos hom hox hl
  have hx : vm_32 x := hos.t.h
  have hy : vm_32 y := hos.h
  have hos1 := hos.t.t
  cases cc with
  | eq =>
    have key := vm_ieq hx hy
    refine lv_icmp_eq C.1 C.2.1 hd ht (fun q => ?_) (fun q => ?_)
    · have q1 : x = y := key.mp q
      have K1 := K
      rw [show vm_cc .eq x y = true from decide_eq_true q1] at K1
      exact K1 H locs lsa hat hol hos1 hom hox hl
    · have q1 : ¬ (x = y) := fun z => q (key.mpr z)
      have K1 := K
      rw [show vm_cc .eq x y = false from decide_eq_false q1] at K1
      exact K1 H locs lsa hat hol hos1 hom hox hl
  | ne =>
    have key := vm_ieq hx hy
    refine lv_icmp_ne C.1 C.2.1 hd ht (fun q => ?_) (fun q => ?_)
    · have q1 : ¬ x = y := fun z => q (key.mpr z)
      have K1 := K
      rw [show vm_cc .ne x y = true from decide_eq_true q1] at K1
      exact K1 H locs lsa hat hol hos1 hom hox hl
    · have q1 : ¬ (¬ x = y) := fun z => z (key.mp q)
      have K1 := K
      rw [show vm_cc .ne x y = false from decide_eq_false q1] at K1
      exact K1 H locs lsa hat hol hos1 hom hox hl
  | lt =>
    have key := vm_ilt hx hy
    refine lv_icmp_lt C.1 C.2.1 hd ht (fun q => ?_) (fun q => ?_)
    · have q1 : x < y := key.mp q
      have K1 := K
      rw [show vm_cc .lt x y = true from decide_eq_true q1] at K1
      exact K1 H locs lsa hat hol hos1 hom hox hl
    · have q1 : ¬ (x < y) := fun z => q (key.mpr z)
      have K1 := K
      rw [show vm_cc .lt x y = false from decide_eq_false q1] at K1
      exact K1 H locs lsa hat hol hos1 hom hox hl
  | ge =>
    have key := vm_ile hy hx
    refine lv_icmp_ge C.1 C.2.1 hd ht (fun q => ?_) (fun q => ?_)
    · have q1 : y ≤ x := key.mp q
      have K1 := K
      rw [show vm_cc .ge x y = true from decide_eq_true q1] at K1
      exact K1 H locs lsa hat hol hos1 hom hox hl
    · have q1 : ¬ (y ≤ x) := fun z => q (key.mpr z)
      have K1 := K
      rw [show vm_cc .ge x y = false from decide_eq_false q1] at K1
      exact K1 H locs lsa hat hol hos1 hom hox hl
  | gt =>
    have key := vm_ilt hy hx
    refine lv_icmp_gt C.1 C.2.1 hd ht (fun q => ?_) (fun q => ?_)
    · have q1 : y < x := key.mp q
      have K1 := K
      rw [show vm_cc .gt x y = true from decide_eq_true q1] at K1
      exact K1 H locs lsa hat hol hos1 hom hox hl
    · have q1 : ¬ (y < x) := fun z => q (key.mpr z)
      have K1 := K
      rw [show vm_cc .gt x y = false from decide_eq_false q1] at K1
      exact K1 H locs lsa hat hol hos1 hom hox hl
  | le =>
    have key := vm_ile hx hy
    refine lv_icmp_le C.1 C.2.1 hd ht (fun q => ?_) (fun q => ?_)
    · have q1 : x ≤ y := key.mp q
      have K1 := K
      rw [show vm_cc .le x y = true from decide_eq_true q1] at K1
      exact K1 H locs lsa hat hol hos1 hom hox hl
    · have q1 : ¬ (x ≤ y) := fun z => q (key.mpr z)
      have K1 := K
      rw [show vm_cc .le x y = false from decide_eq_false q1] at K1
      exact K1 H locs lsa hat hol hos1 hom hox hl

theorem vm_s_if (C : vm_Cx p R s m args meth c dC dI ad CA A f d m0 ph n0) {cc : Jvm.ClassFile.Cond} {pc t : Nat} {o : Int} {ls : vm_L} {r : List vm_V} {mem : vm_M} {x : Int} (hd : decode (vm_cb f) pc = .ok (.ifCond cc o, 3)) (ht : (pc : Int) + o = (t : Int)) (K : vm_Wx p l e R s m args below meth c cells slots Q dC dI ad CA A ph f m0 n0 (cond (vm_cc cc x 0) t (pc + 3)) ls r mem) : vm_Wx p l e R s m args below meth c cells slots Q dC dI ad CA A ph f m0 n0 pc ls (vm_i x :: r) mem := by
  intro H locs lsa hat hol hos hom hox hl
  have hx : vm_32 x := hos.h
  have hy : vm_32 0 := vm_z32
  have hos1 := hos.t
  cases cc with
  | eq =>
    have key := vm_ieq hx hy
    rw [vm_i0] at key
    refine lv_if_eq C.1 C.2.1 hd ht (fun q => ?_) (fun q => ?_)
    · have q1 : x = 0 := key.mp q
      have K1 := K
      rw [show vm_cc .eq x 0 = true from decide_eq_true q1] at K1
      exact K1 H locs lsa hat hol hos1 hom hox hl
    · have q1 : ¬ (x = 0) := fun z => q (key.mpr z)
      have K1 := K
      rw [show vm_cc .eq x 0 = false from decide_eq_false q1] at K1
      exact K1 H locs lsa hat hol hos1 hom hox hl
  | ne =>
    have key := vm_ieq hx hy
    rw [vm_i0] at key
    refine lv_if_ne C.1 C.2.1 hd ht (fun q => ?_) (fun q => ?_)
    · have q1 : ¬ x = 0 := fun z => q (key.mpr z)
      have K1 := K
      rw [show vm_cc .ne x 0 = true from decide_eq_true q1] at K1
      exact K1 H locs lsa hat hol hos1 hom hox hl
    · have q1 : ¬ (¬ x = 0) := fun z => z (key.mp q)
      have K1 := K
      rw [show vm_cc .ne x 0 = false from decide_eq_false q1] at K1
      exact K1 H locs lsa hat hol hos1 hom hox hl
  | lt =>
    have key := vm_ilt hx hy
    rw [vm_i0] at key
    refine lv_if_lt C.1 C.2.1 hd ht (fun q => ?_) (fun q => ?_)
    · have q1 : x < 0 := key.mp q
      have K1 := K
      rw [show vm_cc .lt x 0 = true from decide_eq_true q1] at K1
      exact K1 H locs lsa hat hol hos1 hom hox hl
    · have q1 : ¬ (x < 0) := fun z => q (key.mpr z)
      have K1 := K
      rw [show vm_cc .lt x 0 = false from decide_eq_false q1] at K1
      exact K1 H locs lsa hat hol hos1 hom hox hl
  | ge =>
    have key := vm_ile hy hx
    rw [vm_i0] at key
    refine lv_if_ge C.1 C.2.1 hd ht (fun q => ?_) (fun q => ?_)
    · have q1 : 0 ≤ x := key.mp q
      have K1 := K
      rw [show vm_cc .ge x 0 = true from decide_eq_true q1] at K1
      exact K1 H locs lsa hat hol hos1 hom hox hl
    · have q1 : ¬ (0 ≤ x) := fun z => q (key.mpr z)
      have K1 := K
      rw [show vm_cc .ge x 0 = false from decide_eq_false q1] at K1
      exact K1 H locs lsa hat hol hos1 hom hox hl
  | gt =>
    have key := vm_ilt hy hx
    rw [vm_i0] at key
    refine lv_if_gt C.1 C.2.1 hd ht (fun q => ?_) (fun q => ?_)
    · have q1 : 0 < x := key.mp q
      have K1 := K
      rw [show vm_cc .gt x 0 = true from decide_eq_true q1] at K1
      exact K1 H locs lsa hat hol hos1 hom hox hl
    · have q1 : ¬ (0 < x) := fun z => q (key.mpr z)
      have K1 := K
      rw [show vm_cc .gt x 0 = false from decide_eq_false q1] at K1
      exact K1 H locs lsa hat hol hos1 hom hox hl
  | le =>
    have key := vm_ile hx hy
    rw [vm_i0] at key
    refine lv_if_le C.1 C.2.1 hd ht (fun q => ?_) (fun q => ?_)
    · have q1 : x ≤ 0 := key.mp q
      have K1 := K
      rw [show vm_cc .le x 0 = true from decide_eq_true q1] at K1
      exact K1 H locs lsa hat hol hos1 hom hox hl
    · have q1 : ¬ (x ≤ 0) := fun z => q (key.mpr z)
      have K1 := K
      rw [show vm_cc .le x 0 = false from decide_eq_false q1] at K1
      exact K1 H locs lsa hat hol hos1 hom hox hl

theorem vm_swok_len : ∀ (os : List Int) (qs : List (Int × Nat)) (pc : Nat) (lo : Int) (j : Nat), vm_swok pc lo j os qs = true → os.length = qs.length
  | [], [], _, _, _, _ => rfl
  | o :: os, q :: qs, pc, lo, j, h => by
    simp only [vm_swok, Bool.and_eq_true] at h
    simp [vm_swok_len os qs pc lo (j + 1) h.2]
  | [], q :: qs, _, _, _, h => by simp [vm_swok] at h
  | o :: os, [], _, _, _, h => by simp [vm_swok] at h
/-- the table's entries, one after another from lo + j on -/
theorem vm_swok_in : ∀ (os : List Int) (qs : List (Int × Nat)) (pc : Nat) (lo : Int) (j dd : Nat) (x : Int), vm_swok pc lo j os qs = true → lo + (j : Int) ≤ x → x < lo + (j : Int) + (qs.length : Int) → ∃ off, os[(x - (lo + (j : Int))).toNat]? = some off ∧ (pc : Int) + off = (vm_sw dd x qs : Int)
  | [], [], _, _, _, _, x, _, h1, h2 => by simp at h2; omega
  | o :: os, q :: qs, pc, lo, j, dd, x, h, h1, h2 => by
    simp only [vm_swok, Bool.and_eq_true, decide_eq_true_eq] at h
    obtain ⟨⟨h3, h4⟩, h5⟩ := h
    by_cases hq : x = q.1
    · refine ⟨o, ?_, ?_⟩
      · rw [show (x - (lo + (j : Int))).toNat = 0 by omega]; rfl
      · unfold vm_sw
        rw [decide_eq_true hq]; exact h4
    · obtain ⟨off, g1, g2⟩ := vm_swok_in os qs pc lo (j + 1) dd x h5 (by omega) (by simp at h2; omega)
      refine ⟨off, ?_, ?_⟩
      · rw [show (x - (lo + (j : Int))).toNat = (x - (lo + ((j + 1 : Nat) : Int))).toNat + 1 by omega]; exact g1
      · unfold vm_sw
        rw [decide_eq_false hq]; exact g2
  | [], q :: qs, _, _, _, _, _, h, _, _ => by simp [vm_swok] at h
  | o :: os, [], _, _, _, _, _, h, _, _ => by simp [vm_swok] at h
theorem vm_swok_out : ∀ (os : List Int) (qs : List (Int × Nat)) (pc : Nat) (lo : Int) (j dd : Nat) (x : Int), vm_swok pc lo j os qs = true → (x < lo + (j : Int) ∨ lo + (j : Int) + (qs.length : Int) ≤ x) → vm_sw dd x qs = dd
  | [], [], _, _, _, _, x, _, _ => rfl
  | o :: os, q :: qs, pc, lo, j, dd, x, h, h1 => by
    simp only [vm_swok, Bool.and_eq_true, decide_eq_true_eq] at h
    obtain ⟨⟨h3, h4⟩, h5⟩ := h
    unfold vm_sw
    rw [decide_eq_false (show ¬ x = q.1 by simp at h1; omega)]
    exact vm_swok_out os qs pc lo (j + 1) dd x h5 (by simp at h1; omega)
  | [], q :: qs, _, _, _, _, _, h, _ => by simp [vm_swok] at h
  | o :: os, [], _, _, _, _, _, h, _ => by simp [vm_swok] at h
theorem vm_s_tbl (C : vm_Cx p R s m args meth c dC dI ad CA A f d m0 ph n0) {pc dd len : Nat} {d1 lo hi : Int} {os : Array Int} {qs : List (Int × Nat)} {ls : vm_L} {r : List vm_V} {mem : vm_M} {x : Int} (hd : decode (vm_cb f) pc = .ok (.tableswitch d1 lo hi os, len)) (h1 : (pc : Int) + d1 = (dd : Int)) (h2 : vm_swok pc lo 0 os.toList qs = true) (h3 : hi = lo + (qs.length : Int) - 1) (K : vm_Wx p l e R s m args below meth c cells slots Q dC dI ad CA A ph f m0 n0 (vm_sw dd x qs) ls r mem) : vm_Wx p l e R s m args below meth c cells slots Q dC dI ad CA A ph f m0 n0 pc ls (vm_i x :: r) mem := by
  intro H locs lsa hat hol hos hom hox hl
  have hx : vm_32 x := hos.h
  have K1 := K H locs lsa hat hol hos.t hom hox hl
  have hxt := vm_ti hx
  by_cases hq : x < lo ∨ hi < x
  · rw [vm_swok_out os.toList qs pc lo 0 dd x h2 (by rcases hq with q | q; · left; simpa using q
                                                     · right; simp; omega)] at K1
    exact lv_tableOut C.1 C.2.1 hd (by rw [hxt]; exact hq) h1 K1
  · obtain ⟨off, g1, g2⟩ := vm_swok_in os.toList qs pc lo 0 dd x h2 (by simp; omega) (by simp; omega)
    refine lv_tableIn C.1 C.2.1 hd (by rw [hxt]; omega) (by rw [hxt]; omega) (off := off) ?_ g2 K1
    rw [hxt, ← Array.getElem?_toList]
    simpa using g1
end VMS5
