/-! ===== what the tables say, decided ===== -/
/-- private methods of the builder's parent, called on a builder -/
def js_L : List MethodName := [⟨"java/lang/AbstractStringBuilder", "ensureCapacityInternal", "(I)V"⟩, ⟨"java/lang/AbstractStringBuilder", "newCapacity", "(I)I"⟩, ⟨"java/lang/AbstractStringBuilder", "putStringAt", "(ILjava/lang/String;)V"⟩, ⟨"java/lang/AbstractStringBuilder", "inflateIfNeededFor", "(Ljava/lang/String;)V"⟩]
def js_ws : List Cond := js_L.map (fun y => Cond.selects "java/lang/StringBuilder" y y)
def vm_tb : List Cond := lw_tbl ++ js_ws
abbrev vm_W : List Cond := vm_tb.filter goodWord
def vm_hw (i : Nat) (w : Cond) : Bool :=
  match vm_tb[i]? with
  | some v => decide (v = w) && goodWord w
  | none => false
theorem vm_hw_in {i : Nat} {w : Cond} (h : vm_hw i w = true) : w ∈ vm_W := by
  unfold vm_hw at h
  cases hv : vm_tb[i]? with
  | none => rw [hv] at h; cases h
  | some v =>
    rw [hv] at h
    simp only [Bool.and_eq_true, decide_eq_true_eq] at h
    obtain ⟨rfl, hg⟩ := h
    exact List.mem_filter.mpr ⟨List.mem_of_getElem? hv, hg⟩
theorem vm_W_good {w : Cond} (h : w ∈ vm_W) : goodWord w = true := (List.mem_filter.mp h).2
def vm_wdF (e : Nat × Nat × Nat × Nat) : Cond := .fieldLink (vm_cn e.1) e.2.1 (vm_cn e.2.2.1) (vm_fd e.2.2.1 e.2.2.2).1 (vm_fd e.2.2.1 e.2.2.2).2.1
def vm_wdM (e : Nat × Nat × Nat) : Cond := .methodLink (vm_cn e.1) e.2.1 (vm_mn e.2.2)
def vm_wdN (e : Nat × Nat × Nat) : Cond := .methodLinkNest (vm_cn e.1) e.2.1 (vm_mn e.2.2) "BoardLetters"
def vm_wdC (e : Nat × Nat × Nat) : Cond := .classLink (vm_cn e.1) e.2.1 (vm_cn e.2.2)
def vm_tx (k : Nat) : String := vm_txL.getD k ""
def vm_wdL (e : Nat × Nat × Int) : Cond := .constantLong (vm_cn e.1) e.2.1 (Int64.ofInt e.2.2)
def vm_wdE (e : Nat × Nat) : Cond := .constantFloat (vm_cn e.1) e.2 3212836864
def vm_snm (k : Nat) : String := bif k == 900 then "LEAST_NUMBER" else "MOST_NUMBER"
def vm_wdT (e : Nat × Nat × Nat) : Cond := bif e.1 == 10 then .fieldLink (vm_cn e.1) e.2.1 "BoardLetters" (vm_snm e.2.2) "[I" else .fieldLinkNest (vm_cn e.1) e.2.1 "BoardLetters" (vm_snm e.2.2) "[I" "BoardLetters"
def vm_bn (k : Nat) : MethodName :=
  bif k == 1000 then Lib.Math.max.name else bif k == 1001 then Lib.Math.min.name else bif k == 1002 then Lib.Math.abs.name else bif k == 1003 then arraycopyName else bif k == 1004 then ⟨"java/lang/String", "length", "()I"⟩ else bif k == 1005 then ⟨"java/lang/String", "charAt", "(I)C"⟩ else objectInit
def vm_wdB (e : Nat × Nat × Nat) : Cond := .methodLink (vm_cn e.1) e.2.1 (vm_bn e.2.2)
theorem vm_okF : vm_flL.all (fun e => vm_hw e.2.2.2.2 (vm_wdF (e.1, e.2.1, e.2.2.1, e.2.2.2.1))) = true := by decide +kernel
theorem vm_okM : vm_mlL.all (fun e => vm_hw e.2.2.2 (vm_wdM (e.1, e.2.1, e.2.2.1))) = true := by decide +kernel
def vm_hv (i : Nat) (w : Cond) : Bool :=
  match lw_tbl[i]? with
  | some v => decide (v = w)
  | none => false
theorem vm_hv_in {i : Nat} {w : Cond} (h : vm_hv i w = true) : w ∈ lw_tbl := by
  unfold vm_hv at h
  cases hv : lw_tbl[i]? with
  | none => rw [hv] at h; cases h
  | some v =>
    rw [hv] at h
    simp only [decide_eq_true_eq] at h
    subst h
    exact List.mem_of_getElem? hv
theorem vm_okN : vm_nlL.all (fun e => vm_hv e.2.2.2 (vm_wdN (e.1, e.2.1, e.2.2.1))) = true := by decide +kernel
theorem vm_okC : vm_clkL.all (fun e => vm_hw e.2.2.2 (vm_wdC (e.1, e.2.1, e.2.2.1))) = true := by decide +kernel
theorem vm_okL : vm_llL.all (fun e => vm_hw e.2.2.2 (vm_wdL (e.1, e.2.1, e.2.2.1))) = true := by decide +kernel
theorem vm_okE : vm_ffL.all (fun e => vm_hw e.2.2 (vm_wdE (e.1, e.2.1))) = true := by decide +kernel
theorem vm_okT : vm_stL.all (fun e => vm_hv e.2.2.2 (vm_wdT (e.1, e.2.1, e.2.2.1))) = true := by decide +kernel
theorem vm_okB : vm_blL.all (fun e => vm_hw e.2.2.2 (vm_wdB (e.1, e.2.1, e.2.2.1))) = true := by decide +kernel
/-- of each method but the law -/
def vm_mp (f : Nat) : Nat × Nat × Nat × Nat := vm_mpL.getD f (0, 0, 0, 0)
def vm_mok (f : Nat) : Bool :=
  vm_hw (vm_mp f).2.2.2 (Cond.initialized (vm_cn (vm_mo f)))
  && (bif vm_sta f then vm_hw (vm_mp f).2.1 (Cond.static (vm_mn f)) else vm_hw (vm_mp f).2.1 (Cond.instanceMethod (vm_mn f)) && (decide ((vm_mn f).name = "<init>") || vm_hw (vm_mp f).2.2.1 (Cond.selects (vm_cn (vm_mo f)) (vm_mn f) (vm_mn f))))
  && decide ((parseMethodDescriptor (vm_mn f).desc).map (fun d => d.parameters.length) = some (vm_na f - bif vm_sta f then 0 else 1))
  && plainName (vm_mn f).cls && decide ((vm_mn f).cls ≠ "java/lang/invoke/MethodHandle") && decide ((vm_mn f).cls ≠ "java/lang/invoke/VarHandle") && Nat.ble (vm_mx f) 9 && decide (1 ≤ vm_na f ∨ vm_sta f = true)
theorem vm_pr_lt {g : Nat} (h : vm_pr g = true) : g < 163 := by
  unfold vm_pr at h
  simp only [Bool.and_eq_true] at h
  exact Nat.le_of_ble_eq_true h.1
theorem vm_pr_no {g : Nat} (h : vm_pr g = true) : vm_abL.contains g = false := by
  unfold vm_pr at h
  simp only [Bool.and_eq_true, Bool.not_eq_true'] at h
  exact h.2
theorem vm_pr_all {P : Nat → Bool} (h : (List.range 163).all (fun g => vm_abL.contains g || P g) = true) {g : Nat} (hg : vm_pr g = true) : P g = true := by
  have := List.all_eq_true.mp h g (List.mem_range.mpr (vm_pr_lt hg))
  rw [vm_pr_no hg, Bool.false_or] at this
  exact this
theorem vm_mok_all : (List.range 163).all (fun g => vm_abL.contains g || vm_mok g) = true := by decide +kernel
/-- of each class -/
def vm_cp' (c : Nat) : List Nat × Nat × Nat := vm_cpL.getD c ([], 0, 0)
def vm_cok (c : Nat) : Bool :=
  (List.range (vm_nf c)).all (fun k => vm_hw ((vm_cp' c).1.getD k 0) (u_lay (vm_cn c) (vm_T c) k)) && (List.range (vm_nf c)).all (fun k => decide (parseFieldDescriptor (vm_fd c k).2.1 = some (vm_ty c k)))
  && (List.range (vm_nf c)).all (fun a => (List.range (vm_nf c)).all (fun b => decide (a = b) || decide (¬ (vm_fd c a).1 = (vm_fd c b).1)))
  && vm_hw (vm_cp' c).2.1 (Cond.instantiable (vm_cn c) (vm_nf c)) && vm_hw (vm_cp' c).2.2 (Cond.initialized (vm_cn c))
theorem vm_cok_all : (List.range 11).all vm_cok = true := by decide +kernel
theorem vm_okX1 : vm_hw 85 (Cond.arrayClass .int) = true := by decide +kernel
theorem vm_okX2 : vm_hw 744 (Cond.arrayClass .byte) = true := by decide +kernel
theorem vm_okX3 : vm_hw 239 (Cond.arrayClass .boolean) = true := by decide +kernel
theorem vm_okX5 : vm_hv 210 (Cond.arrayOver (.object "BoardLetters$Setting")) = true := by decide +kernel
theorem vm_okX6 : vm_hw 594 (Cond.native arraycopyName) = true := by decide +kernel
theorem vm_okX7 : vm_hw 593 (Cond.static arraycopyName) = true := by decide +kernel
theorem vm_okX8 : vm_hw 56 (Cond.initialized "java/lang/System") = true := by decide +kernel
theorem vm_okX9 : vm_hw 54 (Cond.initialized "java/lang/Math") = true := by decide +kernel
theorem vm_okXa : vm_hw 641 (Cond.static Lib.Math.max.name) = true := by decide +kernel
theorem vm_okXb : vm_hw 644 (Cond.static Lib.Math.min.name) = true := by decide +kernel
theorem vm_okXc : vm_hw 1104 (Cond.static Lib.Math.abs.name) = true := by decide +kernel
theorem vm_okXd : vm_hw 66 (Cond.instanceMethod objectInit) = true := by decide +kernel
