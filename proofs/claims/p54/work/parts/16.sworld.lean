/-! ===== numbers, and the machine's cells that hold the memory ===== -/
theorem vm_ti {z : Int} (h : vm_32 z) : (Int32.ofInt z).toInt = z := Int32.toInt_ofInt_of_le (by omega) (by omega)
theorem vm_tl {z : Int} (h : vm_64 z) : (Int64.ofInt z).toInt = z := Int64.toInt_ofInt_of_le (by omega) (by omega)
theorem vm_ilt {a b : Int} (ha : vm_32 a) (hb : vm_32 b) : Int32.ofInt a < Int32.ofInt b ↔ a < b := by rw [Int32.lt_iff_toInt_lt, vm_ti ha, vm_ti hb]
theorem vm_ile {a b : Int} (ha : vm_32 a) (hb : vm_32 b) : Int32.ofInt a ≤ Int32.ofInt b ↔ a ≤ b := by rw [Int32.le_iff_toInt_le, vm_ti ha, vm_ti hb]
theorem vm_ieq {a b : Int} (ha : vm_32 a) (hb : vm_32 b) : Int32.ofInt a = Int32.ofInt b ↔ a = b := by rw [← Int32.toInt_inj, vm_ti ha, vm_ti hb]
theorem vm_i0 : Int32.ofInt 0 = 0 := by decide
theorem vm_z32 : vm_32 0 := by decide
theorem vm_ilt0 {a : Int} (ha : vm_32 a) : Int32.ofInt a < 0 ↔ a < 0 := by rw [← vm_i0]; exact vm_ilt ha vm_z32
theorem vm_ix {j : Int} {n : Nat} (h : 0 ≤ j ∧ j < (n : Int)) (hn : n ≤ 2147483647) : vp_in (Int32.ofInt j) n ∧ (Int32.ofInt j).toNatClampNeg = j.toNat := by
  have hj : vm_32 j := ⟨by omega, by omega⟩
  have h1 : (Int32.ofInt j).toNatClampNeg = j.toNat := Int32.toNatClampNeg_ofInt_of_le (by omega) (by omega)
  refine ⟨fun q => ?_, h1⟩
  rcases q with q | q
  · exact absurd ((vm_ilt0 hj).mp q) (by omega)
  · rw [h1] at q; omega
theorem vm_32t (x : Int32) : vm_32 x.toInt := ⟨by have := x.le_toInt; omega, by have := x.toInt_lt; omega⟩
theorem vm_64t (x : Int64) : vm_64 x.toInt := ⟨by have := x.le_toInt; omega, by have := x.toInt_lt; omega⟩
/-- a value in its range; a place that holds longs; a memory in its range -/
def vm_ov (v : vm_V) : Prop :=
  match v with
  | .inl z => vm_32 z
  | .inr (.inl z) => vm_64 z
  | _ => True
def vm_lg (k : Nat) (i : Int) : Bool := Nat.beq (vm_cl k) 103 || (Nat.blt (vm_cl k) 100 && Nat.beq (vm_fk (vm_cl k) i.toNat) 1)
def vm_om (m : vm_M) : Prop := ∀ k i, if vm_lg k i = true then vm_64 (m k i) else vm_32 (m k i)
theorem vm_om.i {m : vm_M} (h : vm_om m) {k : Nat} {i : Int} (hk : vm_lg k i = false) : vm_32 (m k i) := by have := h k i; rw [hk] at this; exact this
theorem vm_om.l {m : vm_M} (h : vm_om m) {k : Nat} {i : Int} (hk : vm_lg k i = true) : vm_64 (m k i) := by have := h k i; rw [hk] at this; exact this
theorem vm_om.st {m : vm_M} (h : vm_om m) {k : Nat} {i v : Int} (hv : if vm_lg k i = true then vm_64 v else vm_32 v) : vm_om (vm_st m k i v) := by
  intro a b
  unfold vm_st
  by_cases hq : a = k ∧ b = i
  · rw [if_pos hq, hq.1, hq.2]; exact hv
  · rw [if_neg hq]; exact h a b
def vm_os (st : List vm_V) : Prop := ∀ v ∈ st, vm_ov v
def vm_ol (ls : vm_L) : Prop := ∀ k v, vm_gl ls k = some v → vm_ov v
theorem vm_os.c {v : vm_V} {r : List vm_V} (hv : vm_ov v) (h : vm_os r) : vm_os (v :: r) := fun w hw => (List.mem_cons.mp hw).elim (fun e => e ▸ hv) (h w)
theorem vm_os.h {v : vm_V} {r : List vm_V} (h : vm_os (v :: r)) : vm_ov v := h v List.mem_cons_self
theorem vm_os.t {v : vm_V} {r : List vm_V} (h : vm_os (v :: r)) : vm_os r := fun w hw => h w (List.mem_cons_of_mem _ hw)
def vm_v (ad : Nat → Nat) (v : vm_V) : Value :=
  match v with
  | .inl z => .int (Int32.ofInt z)
  | .inr (.inl z) => .long (Int64.ofInt z)
  | .inr (.inr (.inl none)) => .null
  | .inr (.inr (.inl (some k))) => .ref (ad k)
  | .inr (.inr (.inr (.inl b))) => .float b
  | .inr (.inr (.inr (.inr b))) => .double b
theorem vm_v_cat (ad : Nat → Nat) (v : vm_V) : (vm_v ad v).category = vm_cat v := by
  rcases v with z | z | (_ | k) | b | b <;> rfl
theorem vm_v_cats (ad : Nat → Nat) : ∀ st : List vm_V, ((st.map (vm_v ad)).map fun v => v.category).sum = vm_cats st
  | [] => rfl
  | v :: r => by
    show (vm_v ad v).category + ((r.map (vm_v ad)).map fun v => v.category).sum = vm_cat v + vm_cats r
    rw [vm_v_cats ad r, vm_v_cat]
/-- an object's field, an object's cell, all cells -/
def vm_fv (ad : Nat → Nat) (ph : Bool) (c k : Nat) (g : Int → Int) (f : Nat) : Value :=
  match vm_fk c f with
  | 1 => .long (Int64.ofInt (g f))
  | 2 => if ph = true ∧ ¬ g f = 1 then .null else .ref (ad (vm_to (vm_rf c f) k))
  | _ => .int (Int32.ofInt (g f))
def vm_ab (k : Nat) : Nat := bif Nat.beq k 22 then 23 else 86
def vm_ce (ad : Nat → Nat) (CA : Nat → ClassId) (ph : Bool) (k : Nat) (g : Int → Int) : va_E :=
  bif Nat.blt (vm_cl k) 100 then .inr (vm_cl k, (List.range (vm_nf (vm_cl k))).map (vm_fv ad ph (vm_cl k) k g))
  else bif Nat.beq (vm_cl k) 103 then .inl (CA 103, vm_ln k, .inr (.inl (fun j => Int64.ofInt (g j))))
  else bif Nat.beq (vm_cl k) 104 then .inl (CA 104, vm_ln k, .inr (.inr (.inr (.inr (fun j => if ph = true ∧ ¬ g j = 1 then none else some (ad (vm_ab k + 5 * j)))))))
  else .inl (CA (vm_cl k), vm_ln k, .inl (fun j => Int32.ofInt (g j)))
def vm_ws (ad : Nat → Nat) (CA : Nat → ClassId) (ph : Bool) (m : vm_M) (n : Nat) : va_W := (List.range n).map (fun k => (ad k, vm_ce ad CA ph k (m k)))
theorem vm_ws_at {ad : Nat → Nat} {CA : Nat → ClassId} {ph : Bool} {m : vm_M} {n k : Nat} (h : k < n) : (vm_ws ad CA ph m n)[k]? = some (ad k, vm_ce ad CA ph k (m k)) := by
  unfold vm_ws
  rw [List.getElem?_map, List.getElem?_range h]
  rfl
theorem vm_ws_set {ad : Nat → Nat} {CA : Nat → ClassId} {ph : Bool} {m m' : vm_M} {n k : Nat} {e : va_E} (he : e = vm_ce ad CA ph k (m' k)) (h : ∀ j, j ≠ k → m' j = m j) : (vm_ws ad CA ph m n).set k (ad k, e) = vm_ws ad CA ph m' n := by
  subst he
  apply List.ext_getElem?
  intro j
  unfold vm_ws
  by_cases hj : j = k
  · subst hj
    by_cases hn : j < n
    · rw [List.getElem?_set_self (by simpa using hn), List.getElem?_map, List.getElem?_range hn]; rfl
    · rw [List.getElem?_eq_none (by simpa using hn), List.getElem?_eq_none (by simpa using hn)]
  · rw [List.getElem?_set_ne (Ne.symm hj), List.getElem?_map, List.getElem?_map]
    by_cases hn : j < n
    · rw [List.getElem?_range hn]; show some (ad j, vm_ce ad CA ph j (m j)) = some (ad j, vm_ce ad CA ph j (m' j)); rw [h j hj]
    · rw [List.getElem?_eq_none (by simpa using hn)]; rfl
theorem vm_ws_push {ad : Nat → Nat} {CA : Nat → ClassId} {ph : Bool} {m m' : vm_M} {n : Nat} (h : ∀ j, j < n → m' j = m j) : vm_ws ad CA ph m n ++ [(ad n, vm_ce ad CA ph n (m' n))] = vm_ws ad CA ph m' (n + 1) := by
  unfold vm_ws
  rw [List.range_succ, List.map_append]
  congr 1
  exact List.map_congr_left (fun j hj => by rw [h j (List.mem_range.mp hj)])
theorem vm_st_ne {m : vm_M} {k j : Nat} {i v : Int} (h : j ≠ k) : vm_st m k i v j = m j := by
  funext x
  unfold vm_st
  rw [if_neg (fun q => h q.1)]
theorem vm_st_eq (m : vm_M) (k : Nat) (i v x : Int) : vm_st m k i v k x = if x = i then v else m k x := by
  unfold vm_st
  by_cases h : x = i
  · rw [if_pos ⟨rfl, h⟩, if_pos h]
  · rw [if_neg (fun q => h q.2), if_neg h]
/-- the locals -/
def vm_lv (ad : Nat → Nat) : Nat → vm_L → List (Nat × Value)
  | _, [] => []
  | i, none :: r => vm_lv ad (i + 1) r
  | i, some v :: r => (i, vm_v ad v) :: vm_lv ad (i + 1) r
theorem vm_lv_mem {ad : Nat → Nat} : ∀ {ls : vm_L} {o : Nat} {q : Nat × Value}, q ∈ vm_lv ad o ls ↔ ∃ k v, q = (o + k, vm_v ad v) ∧ vm_gl ls k = some v := by
  intro ls
  induction ls with
  | nil => intro o q; simp [vm_lv, vm_gl]
  | cons x r ih =>
    intro o q
    have step : (∃ k v, q = (o + k, vm_v ad v) ∧ vm_gl (x :: r) k = some v) ↔ (∃ v, q = (o, vm_v ad v) ∧ x = some v) ∨ ∃ k v, q = (o + 1 + k, vm_v ad v) ∧ vm_gl r k = some v := by
      constructor
      · rintro ⟨k, v, h1, h2⟩
        cases k with
        | zero => exact Or.inl ⟨v, h1, h2⟩
        | succ k => exact Or.inr ⟨k, v, by rw [h1]; congr 1; omega, h2⟩
      · rintro (⟨v, h1, h2⟩ | ⟨k, v, h1, h2⟩)
        · exact ⟨0, v, h1, h2⟩
        · exact ⟨k + 1, v, by rw [h1]; congr 1; omega, h2⟩
    rw [step]
    cases x with
    | none =>
      rw [vm_lv, ih]
      constructor
      · exact Or.inr
      · rintro (⟨v, _, h2⟩ | h)
        · cases h2
        · exact h
    | some w =>
      rw [vm_lv, List.mem_cons, ih]
      constructor
      · rintro (h | h)
        · exact Or.inl ⟨w, h, rfl⟩
        · exact Or.inr h
      · rintro (⟨v, h1, h2⟩ | h)
        · cases h2; exact Or.inl h1
        · exact Or.inr h
theorem vm_lv_at {ad : Nat → Nat} {lsa : Array Slot} {n k : Nat} {ls : vm_L} {v : vm_V} (h : lv_has lsa n (vm_lv ad 0 ls)) (hv : vm_gl ls k = some v) : lsa[k]? = some (.val (vm_v ad v)) :=
  h.2.2 (k, vm_v ad v) (vm_lv_mem.mpr ⟨k, v, by rw [Nat.zero_add], hv⟩)
theorem vm_gl_sl : ∀ {ls : vm_L} {i k : Nat} {x : Option vm_V}, i < ls.length → vm_gl (vm_sl ls i x) k = if k = i then x else vm_gl ls k
  | [], i, k, x, h => by simp at h
  | y :: r, 0, 0, x, h => by simp [vm_sl, vm_gl]
  | y :: r, 0, k + 1, x, h => by simp [vm_sl, vm_gl]
  | y :: r, i + 1, 0, x, h => by simp [vm_sl, vm_gl]
  | y :: r, i + 1, k + 1, x, h => by
    simp only [vm_sl, vm_gl]
    rw [vm_gl_sl (by simpa using h)]
    simp
theorem vm_sl_len : ∀ (ls : vm_L) (i : Nat) (x : Option vm_V), (vm_sl ls i x).length = ls.length
  | [], i, x => by cases i <;> rfl
  | y :: r, 0, x => rfl
  | y :: r, i + 1, x => by simp [vm_sl, vm_sl_len r i x]
theorem vm_c2_cat (ad : Nat → Nat) (v : vm_V) : vm_c2 (some v) = false → ¬ (vm_v ad v).category = 2 := by
  rcases v with z | z | (_ | k) | b | b <;> simp [vm_c2, vm_v, Value.category]
theorem vm_s1_some {ls l : vm_L} {i : Nat} {v : vm_V} (h : vm_s1 ls i v = some l) : vm_pv ls i = false ∧ i < ls.length ∧ l = vm_sl ls i (some v) := by
  unfold vm_s1 at h
  cases hp : vm_pv ls i with
  | true => rw [hp] at h; cases h
  | false =>
    rw [hp] at h
    by_cases hi : i < ls.length
    · rw [decide_eq_true hi] at h; exact ⟨rfl, hi, (Option.some.inj h).symm⟩
    · rw [decide_eq_false hi] at h; cases h
theorem vm_s2_some {ls l : vm_L} {i : Nat} {v : vm_V} (h : vm_s2 ls i v = some l) : vm_pv ls i = false ∧ i + 1 < ls.length ∧ l = vm_sl (vm_sl ls i (some v)) (i + 1) none := by
  unfold vm_s2 at h
  cases hp : vm_pv ls i with
  | true => rw [hp] at h; cases h
  | false =>
    rw [hp] at h
    by_cases hi : i + 1 < ls.length
    · rw [decide_eq_true hi] at h; exact ⟨rfl, hi, (Option.some.inj h).symm⟩
    · rw [decide_eq_false hi] at h; cases h
theorem vm_lv_s1 {ad : Nat → Nat} {lsa : Array Slot} {n i : Nat} {ls l : vm_L} {v : vm_V} (h : vm_s1 ls i v = some l) (hh : lv_has lsa n ((i, vm_v ad v) :: (vm_lv ad 0 ls).filter (fun q => !(q.1 == i) && !(q.1 + 1 == i && q.2.category == 2)))) : lv_has lsa n (vm_lv ad 0 l) := by
  obtain ⟨h1, h2, rfl⟩ := vm_s1_some h
  refine ⟨hh.1, hh.2.1, fun q hq => hh.2.2 q ?_⟩
  obtain ⟨k, w, rfl, hk⟩ := vm_lv_mem.mp hq
  rw [vm_gl_sl h2] at hk
  by_cases hki : k = i
  · rw [if_pos hki] at hk; cases hk; rw [hki, Nat.zero_add]; exact List.mem_cons_self
  · rw [if_neg hki] at hk
    refine List.mem_cons_of_mem _ (List.mem_filter.mpr ⟨vm_lv_mem.mpr ⟨k, w, rfl, hk⟩, ?_⟩)
    have h5 : ¬ (0 + k + 1 = i ∧ (vm_v ad w).category = 2) := by
      rintro ⟨e, ec⟩
      obtain rfl : i = k + 1 := by omega
      rw [vm_pv, hk] at h1
      exact vm_c2_cat ad w h1 ec
    simp only [Bool.and_eq_true, Bool.not_eq_true', beq_eq_false_iff_ne, ne_eq, Bool.and_eq_false_iff]
    refine ⟨by omega, ?_⟩
    by_cases e : 0 + k + 1 = i
    · exact Or.inr (fun ec => h5 ⟨e, ec⟩)
    · exact Or.inl e
theorem vm_lv_s2 {ad : Nat → Nat} {lsa : Array Slot} {n i : Nat} {ls l : vm_L} {v : vm_V} (h : vm_s2 ls i v = some l) (hh : lv_has lsa n ((i, vm_v ad v) :: (vm_lv ad 0 ls).filter (fun q => !(q.1 == i) && (!(q.1 == i + 1) && !(q.1 + 1 == i && q.2.category == 2))))) : lv_has lsa n (vm_lv ad 0 l) := by
  obtain ⟨h1, h2, rfl⟩ := vm_s2_some h
  refine ⟨hh.1, hh.2.1, fun q hq => hh.2.2 q ?_⟩
  obtain ⟨k, w, rfl, hk⟩ := vm_lv_mem.mp hq
  rw [vm_gl_sl (by rw [vm_sl_len]; exact h2), vm_gl_sl (by omega)] at hk
  by_cases hk1 : k = i + 1
  · rw [if_pos hk1] at hk; cases hk
  · rw [if_neg hk1] at hk
    by_cases hki : k = i
    · rw [if_pos hki] at hk; cases hk; rw [hki, Nat.zero_add]; exact List.mem_cons_self
    · rw [if_neg hki] at hk
      refine List.mem_cons_of_mem _ (List.mem_filter.mpr ⟨vm_lv_mem.mpr ⟨k, w, rfl, hk⟩, ?_⟩)
      have h5 : ¬ (0 + k + 1 = i ∧ (vm_v ad w).category = 2) := by
        rintro ⟨e, ec⟩
        obtain rfl : i = k + 1 := by omega
        rw [vm_pv, hk] at h1
        exact vm_c2_cat ad w h1 ec
      simp only [Bool.and_eq_true, Bool.not_eq_true', beq_eq_false_iff_ne, ne_eq, Bool.and_eq_false_iff]
      refine ⟨by omega, by omega, ?_⟩
      by_cases e : 0 + k + 1 = i
      · exact Or.inr (fun ec => h5 ⟨e, ec⟩)
      · exact Or.inl e
theorem vm_ol.s1 {ls l : vm_L} {i : Nat} {v : vm_V} (h : vm_s1 ls i v = some l) (ho : vm_ol ls) (hv : vm_ov v) : vm_ol l := by
  obtain ⟨-, h2, rfl⟩ := vm_s1_some h
  intro k w hk
  rw [vm_gl_sl h2] at hk
  by_cases hki : k = i
  · rw [if_pos hki] at hk; cases hk; exact hv
  · rw [if_neg hki] at hk; exact ho k w hk
theorem vm_ol.s2 {ls l : vm_L} {i : Nat} {v : vm_V} (h : vm_s2 ls i v = some l) (ho : vm_ol ls) (hv : vm_ov v) : vm_ol l := by
  obtain ⟨-, h2, rfl⟩ := vm_s2_some h
  intro k w hk
  rw [vm_gl_sl (by rw [vm_sl_len]; exact h2), vm_gl_sl (by omega)] at hk
  by_cases hk1 : k = i + 1
  · rw [if_pos hk1] at hk; cases hk
  · rw [if_neg hk1] at hk
    by_cases hki : k = i
    · rw [if_pos hki] at hk; cases hk; exact hv
    · rw [if_neg hki] at hk; exact ho k w hk
