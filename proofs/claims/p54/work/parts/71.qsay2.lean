/-! ===== saying words in the model ===== -/
section SB
variable {D : vD} {E : Int → Int} {z : vZs} {t : vTE} {m m' : vm_M}
def vSe (k : Nat) (i : Int) : Bool := Nat.beq k 115 || Nat.beq k 116 || (Nat.beq k 96 && (decide (i = 26) || decide (i = 40)))
theorem vSe_n {k : Nat} {i : Int} (h1 : k ≠ 115) (h2 : k ≠ 116) (h3 : k = 96 → i ≠ 26 ∧ i ≠ 40) : vSe k i = false := Bool.eq_false_iff.mpr (fun q => by
  unfold vSe at q
  simp only [Bool.or_eq_true, Bool.and_eq_true, decide_eq_true_eq] at q
  rcases q with (q | q) | q
  · exact h1 (vm_beq q)
  · exact h2 (vm_beq q)
  · have := h3 (vm_beq q.1)
    rcases q.2 with x | x
    · exact this.1 x
    · exact this.2 x)
theorem vsg_w {b : Int} (hb : 0 ≤ b ∧ b ≤ 255) {c : Int} (hc : 0 ≤ c ∧ c ≤ 127) : vsg b = c ↔ b = c := by
  unfold vsg
  split <;> omega
/-- a word is done -/
theorem wm_fin {s : vSY} (hs : wo D s) (hv : sV s ≠ 0) (hw : wm s m) : wm (sfin s) (vm_st (vm_st m 115 (sN s) (sV s)) 96 40 (sN s + 1)) := by
  have e : sfin s = (sN s + 1, 0, sL s, sP s) := if_neg hv
  obtain ⟨w1, w2, w3⟩ := hw
  rw [e]
  refine ⟨vst_s _ _ _ _, fun w a b => ?_, fun w k hd => ?_⟩
  · have b2 : w < sN s + 1 := b
    rw [vst_k (by decide), vst_if]
    show _ = sL s w
    by_cases q : w = sN s
    · rw [if_pos q, q, (hs.2.2.1 hv).2]
    · rw [if_neg q]; exact w2 w a (by omega)
  · rw [vst_k (by decide), vst_k (by decide)]
    exact w3 w k (sfin_d hs (by rw [e]; exact hd))
/-- a letter more -/
theorem wm_add {s : vSY} {a : Int} (hs : wo D s) (hw : wm s m) {i : Int} : wm (sadd s a) (vm_st (vm_st m 116 (12 * sN s + sV s) a) 96 26 i) := by
  obtain ⟨w1, w2, w3⟩ := hw
  refine ⟨by rw [vst_i (by decide), vst_k (by decide)]; exact w1, fun w b c => ?_, fun w k hd => ?_⟩
  · have c2 : w < sN s := c
    rw [vst_k (by decide), vst_k (by decide), w2 w b c2]
    show sL s w = if w = sN s then sV s + 1 else sL s w
    rw [if_neg (by omega)]
  · show _ = if 12 * w + k = 12 * sN s + sV s then a else sP s (12 * w + k)
    rw [vst_k (by decide), vst_if]
    rcases sadd_d hs hd with e | e
    · rw [if_pos (by omega), if_pos (by omega)]
    · rw [if_neg e.2, if_neg e.2]; exact w3 w k e.1
theorem wm_fr {s : vSY} {S : Nat → Int → Bool} (h : vfr S m m') (h1 : S 96 40 = false) (h2 : ∀ i, S 115 i = false) (h3 : ∀ i, S 116 i = false) (hw : wm s m) : wm s m' := by
  obtain ⟨w1, w2, w3⟩ := hw
  exact ⟨by rw [h _ _ h1]; exact w1, fun w a b => by rw [h _ _ (h2 _)]; exact w2 w a b, fun w k d => by rw [h _ _ (h3 _)]; exact w3 w k d⟩
end SB
