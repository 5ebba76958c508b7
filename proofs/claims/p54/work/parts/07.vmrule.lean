/-! ===== rows for the machine of numbers ===== -/
set_option maxHeartbeats 8000000 in
theorem vm_x_ob (ph : Bool) (i : vm_I) (ls : vm_L) (st : List vm_V) (m : vm_M) (ob : Bool) : vm_x ph i ls st m ob = (vm_x ph i ls st m true).map (fun s => (s.1, s.2.1, s.2.2.1, ob && s.2.2.2)) := by
  unfold vm_x
  split <;> (repeat' split) <;> first | rfl | (simp only [Option.map_some, Option.map_none, Bool.true_and, Bool.and_true, Bool.and_assoc]; done) | (cases i.2.1 == 1 <;> simp [Bool.and_assoc]; done) | (cases ph <;> simp [Bool.and_assoc]; done) | (cases i.2.2.1 == 102 <;> simp [Bool.and_assoc]; done) | (cases i.2.1 == 0 <;> cases i.2.2.1 == 1 <;> simp [Bool.and_assoc]; done) | (cases hq : (vm_cat _ == 1) <;> simp [Bool.and_assoc]; done) | (rename_i a b _ ; cases vm_cat a == 1 <;> cases vm_cat b == 1 <;> simp [Bool.and_assoc]; done)
set_option maxHeartbeats 4000000 in
theorem vm_wp_mono {ph : Bool} : ∀ (n : Nat) {n' d d' f kc ks pc : Nat} {ls : vm_L} {st : List vm_V} {m : vm_M} {Q Q' : Option vm_V → vm_M → Prop}, n ≤ n' → d ≤ d' → (∀ r m, Q r m → Q' r m) → vm_wp ph n d f kc ks pc ls st m Q → vm_wp ph n' d' f kc ks pc ls st m Q' := by
  intro n
  induction n with
  | zero => intro n' d d' f kc ks pc ls st m Q Q' _ _ _ h; exact h.elim
  | succ n ih =>
    intro n' d d' f kc ks pc ls st m Q Q' hn hd hQ h
    obtain ⟨k, rfl⟩ : ∃ k, n' = k + 1 := ⟨n' - 1, by omega⟩
    have hk : n ≤ k := by omega
    unfold vm_wp at h ⊢
    cases ha : vm_at f pc with
    | none => rw [ha] at h; exact h.elim
    | some q =>
      obtain ⟨i, len⟩ := q
      rw [ha] at h
      dsimp only at h ⊢
      generalize vm_kd i = kd at h ⊢
      rcases kd with _ | _ | _ | _ | kd
      · try dsimp only at h ⊢
        cases hx : vm_x ph i ls st m true with
        | none => rw [hx] at h; exact h.elim
        | some s => rw [hx] at h; exact ⟨h.1, ih hk hd hQ h.2⟩
      · try dsimp only at h ⊢
        cases hx : vm_jmp i (pc + len) st with
        | none => rw [hx] at h; exact h.elim
        | some s => rw [hx] at h; exact ih hk hd hQ h
      · try dsimp only at h ⊢
        cases hx : vm_re i st with
        | none => rw [hx] at h; exact h.elim
        | some s => rw [hx] at h; exact ⟨h.1, hQ _ _ h.2⟩
      · try dsimp only at h ⊢
        cases d with
        | zero => exact h.elim
        | succ d =>
          obtain ⟨e, rfl⟩ : ∃ e, d' = e + 1 := ⟨d' - 1, by omega⟩
          exact ⟨h.1, ih hk (by omega) (fun r m' h' => ih hk hd hQ h') h.2⟩
      · try dsimp only at h ⊢
        cases ph with
        | false => exact h.elim
        | true =>
          dsimp only [cond] at h ⊢
          cases hx : vm_mk i st m with
          | none => rw [hx] at h; exact h.elim
          | some s => rw [hx] at h; exact ⟨h.1, h.2.1, h.2.2.1, ih hk hd hQ h.2.2.2⟩
set_option maxHeartbeats 4000000 in
/-- a run comes to one end -/
theorem vm_wp_out {ph : Bool} : ∀ (n : Nat) {d f kc ks pc : Nat} {ls : vm_L} {st : List vm_V} {m : vm_M} {Q : Option vm_V → vm_M → Prop}, vm_wp ph n d f kc ks pc ls st m Q → ∃ r m', Q r m' ∧ ∀ Q' : Option vm_V → vm_M → Prop, Q' r m' → vm_wp ph n d f kc ks pc ls st m Q' := by
  intro n
  induction n with
  | zero => intro d f kc ks pc ls st m Q h; exact h.elim
  | succ n ih =>
    intro d f kc ks pc ls st m Q h
    unfold vm_wp at h ⊢
    cases ha : vm_at f pc with
    | none => rw [ha] at h; exact h.elim
    | some q =>
      obtain ⟨i, len⟩ := q
      rw [ha] at h
      dsimp only at h ⊢
      generalize vm_kd i = kd at h ⊢
      rcases kd with _ | _ | _ | _ | kd
      · try dsimp only at h ⊢
        cases hx : vm_x ph i ls st m true with
        | none => rw [hx] at h; exact h.elim
        | some s => rw [hx] at h; obtain ⟨r, m', h1, h2⟩ := ih h.2; exact ⟨r, m', h1, fun Q' q => ⟨h.1, h2 Q' q⟩⟩
      · try dsimp only at h ⊢
        cases hx : vm_jmp i (pc + len) st with
        | none => rw [hx] at h; exact h.elim
        | some s => rw [hx] at h; exact ih h
      · try dsimp only at h ⊢
        cases hx : vm_re i st with
        | none => rw [hx] at h; exact h.elim
        | some s => rw [hx] at h; exact ⟨_, _, h.2, fun Q' q => ⟨h.1, q⟩⟩
      · try dsimp only at h ⊢
        cases d with
        | zero => exact h.elim
        | succ d =>
          obtain ⟨r1, m1, h1, h2⟩ := ih h.2
          obtain ⟨r, m', h3, h4⟩ := ih h1
          exact ⟨r, m', h3, fun Q' q => ⟨h.1, h2 _ (h4 Q' q)⟩⟩
      · try dsimp only at h ⊢
        cases ph with
        | false => exact h.elim
        | true =>
          dsimp only [cond] at h ⊢
          cases hx : vm_mk i st m with
          | none => rw [hx] at h; exact h.elim
          | some s => rw [hx] at h; obtain ⟨r, m', h1, h2⟩ := ih h.2.2.2; exact ⟨r, m', h1, fun Q' q => ⟨h.1, h.2.1, h.2.2.1, h2 Q' q⟩⟩
/-- from here on f comes to an end at which Q holds (nothing is made) -/
def vm_G (f pc : Nat) (ls : vm_L) (st : List vm_V) (m : vm_M) (Q : Option vm_V → vm_M → Prop) : Prop := ∃ n, vm_wp false n (vm_ht f) f 0 0 pc ls st m Q
/-- called with av, f comes to an end at which Q holds -/
def vm_C (f : Nat) (av : List vm_V) (m : vm_M) (Q : Option vm_V → vm_M → Prop) : Prop := vm_G f 0 (vm_en f av) [] m Q
def vm_qi (Q : Int → vm_M → Prop) : Option vm_V → vm_M → Prop := fun r m => ∃ z, r = some (vm_i z) ∧ Q z m
def vm_ql (Q : Int → vm_M → Prop) : Option vm_V → vm_M → Prop := fun r m => ∃ z, r = some (vm_l z) ∧ Q z m
def vm_qf (Q : UInt32 → vm_M → Prop) : Option vm_V → vm_M → Prop := fun r m => ∃ z, r = some (vm_f z) ∧ Q z m
def vm_qd (Q : UInt64 → vm_M → Prop) : Option vm_V → vm_M → Prop := fun r m => ∃ z, r = some (vm_d z) ∧ Q z m
def vm_qv (Q : vm_M → Prop) : Option vm_V → vm_M → Prop := fun r m => r = none ∧ Q m
def vm_gt (i : vm_I) : Bool :=
  match i.1 with
  | .goto _ => true
  | _ => false
def vm_path (f : Nat) : Nat → List vm_I → Option Nat
  | pc, [] => some pc
  | pc, i :: r => match vm_at f pc with
    | some q => bif decide (q.1 = i) then (bif vm_gt i then vm_path f i.2.1 r else bif vm_kd i == 0 then vm_path f (pc + q.2) r else none) else none
    | none => none
def vm_run : List vm_I → vm_L → List vm_V → vm_M → Bool → Option vm_S
  | [], ls, st, m, ob => some (ls, st, m, ob)
  | i :: r, ls, st, m, ob => bif vm_gt i then vm_run r ls st m ob else
    match vm_x false i ls st m ob with
    | some s => vm_run r s.1 s.2.1 s.2.2.1 s.2.2.2
    | none => none
def vm_isat (f pc : Nat) (i : vm_I) (len : Nat) : Bool :=
  match vm_at f pc with
  | some q => decide (q.1 = i) && Nat.beq q.2 len
  | none => false
theorem vm_isat_at {f pc : Nat} {i : vm_I} {len : Nat} (h : vm_isat f pc i len = true) : vm_at f pc = some (i, len) := by
  unfold vm_isat at h
  cases ha : vm_at f pc with
  | none => rw [ha] at h; cases h
  | some q =>
    rw [ha] at h
    obtain ⟨a, b⟩ := q
    simp only [Bool.and_eq_true, decide_eq_true_eq] at h
    rw [h.1, Nat.eq_of_beq_eq_true h.2]
theorem vm_t {p : Prop} [Decidable p] {b : Bool} (hb : b = true) (h : p) : (b && decide p) = true := by rw [hb]; simpa using h
theorem vm_u {b c : Bool} (hb : b = true) (h : c = true) : (b && c) = true := by rw [hb, h]; rfl
theorem vm_okh_v {g k c : Nat} {r : List vm_V} (hc : vm_mo g = c) (h : vm_is k c = true) : vm_okh g (vm_r k :: r) = true := by
  show (vm_sta g || vm_is k (vm_mo g)) = true
  rw [hc, h, Bool.or_true]
theorem vm_okh_s {g : Nat} {av : List vm_V} (h : vm_sta g = true) : vm_okh g av = true := by
  unfold vm_okh
  split
  · rfl
  · rw [h]; rfl
  · exact h
theorem vm_is_ar {k c t n : Nat} (d : Nat) (h9 : (999 == c) = false) (hc : vm_is k c = true) (h : (List.range 96).all (fun j => !vm_is j c || vm_ar (j + d) t n) = true) : vm_ar (k + d) t n = true := by
  have hk : k < 96 := by
    rcases Nat.lt_or_ge k 96 with q | q
    · exact q
    · have : vm_cl k = 999 := by
        unfold vm_cl
        rw [List.getD_eq_getElem?_getD, List.getElem?_eq_none (by exact q)]; rfl
      unfold vm_is at hc
      rw [this] at hc
      rw [h9] at hc; cases hc
  have := List.all_eq_true.mp h k (List.mem_range.mpr hk)
  rw [hc] at this
  simpa using this
theorem vm_is_st {b : Nat} {j : Int} (n : Nat) (h : 0 ≤ j ∧ j < (n : Int)) (hb : (List.range n).all (fun i => vm_is (b + 5 * i) 4) = true) : vm_is (b + 5 * j.toNat) 4 = true :=
  List.all_eq_true.mp hb j.toNat (List.mem_range.mpr (by omega))
theorem vm_G.mono {f pc : Nat} {ls : vm_L} {st : List vm_V} {m : vm_M} {Q Q' : Option vm_V → vm_M → Prop} (h : vm_G f pc ls st m Q) (hQ : ∀ r m, Q r m → Q' r m) : vm_G f pc ls st m Q' := by
  obtain ⟨n, h⟩ := h
  exact ⟨n, vm_wp_mono n (Nat.le_refl _) (Nat.le_refl _) hQ h⟩
theorem vm_gt_goto {i : vm_I} (h : vm_gt i = true) : vm_kd i = 1 ∧ ∀ nx st, vm_jmp i nx st = some (i.2.1, st) := by
  obtain ⟨k, a, b, c⟩ := i
  cases k <;> first | (simp [vm_gt] at h; done) | exact ⟨rfl, fun _ _ => rfl⟩
theorem vm_run_le : ∀ (l : List vm_I) {ls : vm_L} {st : List vm_V} {m : vm_M} {ob : Bool} {s : vm_S}, vm_run l ls st m ob = some s → s.2.2.2 = true → ob = true := by
  intro l
  induction l with
  | nil => intro ls st m ob s h hs; simp only [vm_run, Option.some.injEq] at h; rw [← h] at hs; exact hs
  | cons i r ih =>
    intro ls st m ob s h hs
    unfold vm_run at h
    cases hg : vm_gt i with
    | true => rw [hg] at h; exact ih h hs
    | false =>
      rw [hg] at h
      dsimp only [cond] at h
      rw [vm_x_ob] at h
      cases hx : vm_x false i ls st m true with
      | none => rw [hx] at h; cases h
      | some t =>
        rw [hx] at h
        have := ih h hs
        simp only [Bool.and_eq_true] at this
        exact this.1
/-- a stretch of steps -/
theorem vm_gp {f pc1 : Nat} {Q : Option vm_V → vm_M → Prop} : ∀ (l : List vm_I) {pc : Nat} {ls ls1 : vm_L} {st st1 : List vm_V} {m m1 : vm_M} {ob : Bool}, vm_path f pc l = some pc1 → vm_run l ls st m true = some (ls1, st1, m1, ob) → ob = true → vm_G f pc1 ls1 st1 m1 Q → vm_G f pc ls st m Q := by
  intro l
  induction l with
  | nil =>
    intro pc ls ls1 st st1 m m1 ob hp hr ho k
    simp only [vm_path, Option.some.injEq] at hp
    simp only [vm_run, Option.some.injEq, Prod.mk.injEq] at hr
    obtain ⟨rfl, rfl, rfl, -⟩ := hr
    subst hp
    exact k
  | cons i r ih =>
    intro pc ls ls1 st st1 m m1 ob hp hr ho k
    subst ho
    unfold vm_path at hp
    unfold vm_run at hr
    cases ha : vm_at f pc with
    | none => rw [ha] at hp; cases hp
    | some q =>
      rw [ha] at hp
      dsimp only at hp
      by_cases hj : q.1 = i
      · rw [decide_eq_true hj] at hp
        dsimp only [cond] at hp
        have hqi : q.1 = i := hj
        cases hg : vm_gt i with
        | true =>
          rw [hg] at hp hr
          dsimp only [cond] at hp hr
          obtain ⟨n, hn⟩ := ih hp hr rfl k
          obtain ⟨h1, h2⟩ := vm_gt_goto hg
          refine ⟨n + 1, ?_⟩
          unfold vm_wp
          rw [ha]
          try dsimp only
          rw [hqi, h1]
          try dsimp only
          rw [h2]
          exact hn
        | false =>
          rw [hg] at hp hr
          dsimp only [cond] at hp hr
          by_cases hk : (vm_kd i == 0) = true
          · rw [hk] at hp
            dsimp only [cond] at hp
            have hk0 : vm_kd i = 0 := by simpa using hk
            cases hx : vm_x false i ls st m true with
            | none => rw [hx] at hr; cases hr
            | some s =>
              rw [hx] at hr
              dsimp only at hr
              have hs : s.2.2.2 = true := vm_run_le r hr rfl
              rw [hs] at hr
              obtain ⟨n, hn⟩ := ih hp hr rfl k
              refine ⟨n + 1, ?_⟩
              unfold vm_wp
              rw [ha]
              try dsimp only
              rw [hqi, hk0]
              try dsimp only
              rw [hx]
              exact ⟨⟨hs, rfl⟩, hn⟩
          · rw [Bool.not_eq_true] at hk
            rw [hk] at hp
            cases hp
      · rw [decide_eq_false hj] at hp
        cases hp
/-- a jump -/
theorem vm_gj {f pc len t e : Nat} {i : vm_I} {ls : vm_L} {st st1 : List vm_V} {m : vm_M} {Q : Option vm_V → vm_M → Prop} {c : Prop} [Decidable c] (ha : vm_isat f pc i len = true) (hk : vm_kd i = 1) (hj : vm_jmp i (pc + len) st = some (cond (decide c) t e, st1)) (a : c → vm_G f t ls st1 m Q) (b : ¬ c → vm_G f e ls st1 m Q) : vm_G f pc ls st m Q := by
  have h : vm_G f (cond (decide c) t e) ls st1 m Q := by
    by_cases hc : c
    · rw [decide_eq_true hc]; exact a hc
    · rw [decide_eq_false hc]; exact b hc
  obtain ⟨n, hn⟩ := h
  refine ⟨n + 1, ?_⟩
  unfold vm_wp
  rw [vm_isat_at ha]
  try dsimp only
  rw [hk]
  try dsimp only
  rw [hj]
  exact hn
/-- a jump that goes one way -/
theorem vm_gj1 {f pc len t : Nat} {i : vm_I} {ls : vm_L} {st st1 : List vm_V} {m : vm_M} {Q : Option vm_V → vm_M → Prop} (ha : vm_isat f pc i len = true) (hk : vm_kd i = 1) (hj : vm_jmp i (pc + len) st = some (t, st1)) (a : vm_G f t ls st1 m Q) : vm_G f pc ls st m Q := by
  obtain ⟨n, hn⟩ := a
  refine ⟨n + 1, ?_⟩
  unfold vm_wp
  rw [vm_isat_at ha]
  try dsimp only
  rw [hk]
  try dsimp only
  rw [hj]
  exact hn
/-- a return -/
theorem vm_gr {f pc len : Nat} {i : vm_I} {ls : vm_L} {st : List vm_V} {m : vm_M} {Q : Option vm_V → vm_M → Prop} {r : Option vm_V} {ob : Bool} (ha : vm_isat f pc i len = true) (hk : vm_kd i = 2) (hj : vm_re i st = some (r, ob)) (ho : ob = true) (h : Q r m) : vm_G f pc ls st m Q := by
  refine ⟨1, ?_⟩
  unfold vm_wp
  rw [vm_isat_at ha]
  try dsimp only
  rw [hk]
  try dsimp only
  rw [hj]
  exact ⟨⟨ho, rfl⟩, h⟩
/-- a call -/
theorem vm_gc {f pc len na : Nat} {g : Nat} {i : vm_I} {ls : vm_L} {st av rest : List vm_V} {m : vm_M} {Q : Option vm_V → vm_M → Prop} (ha : vm_isat f pc i len = true) (hk : vm_kd i = 3) (hg : i.2.1 = g) (hn : i.2.2.1 = na) (hh : vm_ht g < vm_ht f) (hm : vm_mc g = 0 ∧ vm_ms g = 0) (hav : (st.take na).reverse = av) (hre : st.drop na = rest) (hok : vm_okc g av rest 0 0 = true)
    (k : vm_C g av m (fun r m' => vm_G f (pc + len) ls (r.toList ++ rest) m' Q)) : vm_G f pc ls st m Q := by
  subst hg hn hav hre
  obtain ⟨n1, h1⟩ := k
  obtain ⟨r, m', ⟨n2, h2⟩, h3⟩ := vm_wp_out n1 h1
  obtain ⟨d, hd⟩ : ∃ d, vm_ht f = d + 1 := ⟨vm_ht f - 1, by omega⟩
  refine ⟨n1 + n2 + 1, ?_⟩
  unfold vm_wp
  rw [vm_isat_at ha]
  try dsimp only
  rw [hk, hd]
  try dsimp only
  refine ⟨⟨hok, rfl⟩, ?_⟩
  rw [hm.1, hm.2]
  have h4 := h3 (fun r m' => vm_wp false (n1 + n2) (d + 1) f (0 - 0) (0 - 0) (pc + len) ls (r.toList ++ st.drop i.2.2.1) m' Q) (vm_wp_mono n2 (by omega) (by omega) (fun _ _ q => q) h2)
  exact vm_wp_mono n1 (by omega) (by omega) (fun _ _ q => q) h4
