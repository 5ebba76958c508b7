/-! ===== the cases of the law (printed) ===== -/
section LC
variable {D : vD} {E : Int → Int} {z : vZs} {m m1 m2 : vm_M} {fx fm : Nat} {ax am : List vm_V}
theorem law_g {X : Int → vm_M → Prop} (hq : vm_C fx ax m (vm_qi (fun z1 m1 => vP m m1 ∧ vm_C fm am m1 (vm_qi (fun z2 m2 => z1 = z2 ∧ vP m m2 ∧ INV m2))))) (h : ∀ z1 m1, vP m m1 → (∀ Q' : Int → vm_M → Prop, (∀ m2, vP m m2 → INV m2 → Q' z1 m2) → vm_C fm am m1 (vm_qi Q')) → X z1 m1) : vm_C fx ax m (vm_qi X) := by
  refine vm_G.mono hq ?_
  rintro _ m1 ⟨z1, rfl, p, c⟩
  refine ⟨z1, rfl, h z1 m1 p (fun Q' k => vm_G.mono c ?_)⟩
  rintro _ m2 ⟨z2, rfl, rfl, p2, i2⟩
  exact ⟨_, rfl, k m2 p2 i2⟩
/-- what is asked of load -/
def vLoad : Prop := ∀ m : vm_M, INV m → vm_C 103 [vm_r 0] m (vm_qi (fun z1 m1 => vP m m1 ∧ vm_C 216 [vm_r 96] m1 (vm_qi (fun z2 m2 => z1 = z2 ∧ vP m m2 ∧ INV m2))))
theorem lw_252 {v3 : Int} {w4 w6 : Option vm_V} {Q : Int → vm_M → Prop} (hv : 0 ≤ v3) (hL : v3 + 6 ≤ m 903 0) (hM : m 903 0 ≤ 3072) (hx : ∀ j, vm_32 (m 902 j)) (hI : INV m) (K : ∀ m' w4 w6, vP m m' → INV m' → kuL_law_1673 v3 w4 w6 m' Q) : kuL_law_252 v3 w4 w6 m Q := by
  obtain ⟨D, E, z, c, hZ, rx, rm⟩ := hI
  refine ruL_law_252 ⟨by omega, law_g (q_append c hZ rx rm (fun w m2 p2 i2 => ⟨rfl, p2, i2⟩)) (fun z1 m1 p k => ?_)⟩
  rw [p 902 (v3 + 1) (by decide), p 902 (v3 + 2) (by decide), p 902 (v3 + 3) (by decide), p 902 (v3 + 4) (by decide), p 902 (v3 + 5) (by decide), p 903 0 (by decide)]
  exact ⟨by omega, k _ (fun m2 p2 i2 => ⟨fun _ => K m2 _ _ p2 i2, fun n => absurd rfl n⟩)⟩
theorem lw_315 {v3 : Int} {w4 w6 : Option vm_V} {Q : Int → vm_M → Prop} (hv : 0 ≤ v3) (hL : v3 + 6 ≤ m 903 0) (hM : m 903 0 ≤ 3072) (hx : ∀ j, vm_32 (m 902 j)) (hI : INV m) (K : ∀ m' w4 w6, vP m m' → INV m' → kuL_law_1673 v3 w4 w6 m' Q) : kuL_law_315 v3 w4 w6 m Q := by
  obtain ⟨D, E, z, c, hZ, rx, rm⟩ := hI
  refine ruL_law_315 ⟨by omega, law_g (q_truncate c hZ rx rm (fun w m2 p2 i2 => ⟨rfl, p2, i2⟩)) (fun z1 m1 p k => ?_)⟩
  rw [p 902 (v3 + 1) (by decide), p 903 0 (by decide)]
  exact ⟨by omega, k _ (fun m2 p2 i2 => ⟨fun _ => K m2 _ _ p2 i2, fun n => absurd rfl n⟩)⟩
theorem lw_338 (hLd : vLoad) {v3 : Int} {w4 w6 : Option vm_V} {Q : Int → vm_M → Prop} (hv : 0 ≤ v3) (hL : v3 + 6 ≤ m 903 0) (hM : m 903 0 ≤ 3072) (hx : ∀ j, vm_32 (m 902 j)) (hI : INV m) (K : ∀ m' w4 w6, vP m m' → INV m' → kuL_law_1673 v3 w4 w6 m' Q) : kuL_law_338 v3 w4 w6 m Q := by
  exact ruL_law_338 (law_g (hLd m hI) (fun z1 m1 p k => k _ (fun m2 p2 i2 => ⟨fun _ => K m2 _ _ p2 i2, fun n => absurd rfl n⟩)))
theorem lw_351 {v3 : Int} {w4 w6 : Option vm_V} {Q : Int → vm_M → Prop} (hv : 0 ≤ v3) (hL : v3 + 6 ≤ m 903 0) (hM : m 903 0 ≤ 3072) (hx : ∀ j, vm_32 (m 902 j)) (hI : INV m) (K : ∀ m' w4 w6, vP m m' → INV m' → kuL_law_1673 v3 w4 w6 m' Q) : kuL_law_351 v3 w4 w6 m Q := by
  obtain ⟨D, E, z, c, hZ, rx, rm⟩ := hI
  exact ruL_law_351 (law_g (q_errorPosition c hZ rx rm (fun w m2 p2 i2 => ⟨rfl, p2, i2⟩)) (fun z1 m1 p k => k _ (fun m2 p2 i2 => ⟨fun _ => K m2 _ _ p2 i2, fun n => absurd rfl n⟩)))
theorem lw_364 {v3 : Int} {w4 w6 : Option vm_V} {Q : Int → vm_M → Prop} (hv : 0 ≤ v3) (hL : v3 + 6 ≤ m 903 0) (hM : m 903 0 ≤ 3072) (hx : ∀ j, vm_32 (m 902 j)) (hI : INV m) (K : ∀ m' w4 w6, vP m m' → INV m' → kuL_law_1673 v3 w4 w6 m' Q) : kuL_law_364 v3 w4 w6 m Q := by
  obtain ⟨D, E, z, c, hZ, rx, rm⟩ := hI
  exact ruL_law_364 (law_g (q_say c hZ rx rm (fun w m2 p2 i2 => ⟨rfl, p2, i2⟩)) (fun z1 m1 p k => k _ (fun m2 p2 i2 => ⟨fun _ => K m2 _ _ p2 i2, fun n => absurd rfl n⟩)))
theorem lw_377 {v3 : Int} {w4 w6 : Option vm_V} {Q : Int → vm_M → Prop} (hv : 0 ≤ v3) (hL : v3 + 6 ≤ m 903 0) (hM : m 903 0 ≤ 3072) (hx : ∀ j, vm_32 (m 902 j)) (hI : INV m) (K : ∀ m' w4 w6, vP m m' → INV m' → kuL_law_1673 v3 w4 w6 m' Q) : kuL_law_377 v3 w4 w6 m Q := by
  obtain ⟨D, E, z, c, hZ, rx, rm⟩ := hI
  refine ruL_law_377 ⟨by omega, law_g (q_setNumber c hZ rx rm (fun w m2 p2 i2 => ⟨rfl, p2, i2⟩)) (fun z1 m1 p k => ?_)⟩
  rw [p 902 (v3 + 1) (by decide), p 902 (v3 + 2) (by decide), p 903 0 (by decide)]
  exact ⟨by omega, k _ (fun m2 p2 i2 => ⟨fun _ => K m2 _ _ p2 i2, fun n => absurd rfl n⟩)⟩
theorem lw_410 {v3 : Int} {w4 w6 : Option vm_V} {Q : Int → vm_M → Prop} (hv : 0 ≤ v3) (hL : v3 + 6 ≤ m 903 0) (hM : m 903 0 ≤ 3072) (hx : ∀ j, vm_32 (m 902 j)) (hI : INV m) (K : ∀ m' w4 w6, vP m m' → INV m' → kuL_law_1673 v3 w4 w6 m' Q) : kuL_law_410 v3 w4 w6 m Q := by
  obtain ⟨D, E, z, c, hZ, rx, rm⟩ := hI
  refine ruL_law_410 ⟨by omega, law_g (q_correct c hZ rx rm (fun w m2 p2 i2 => ⟨rfl, p2, i2⟩)) (fun z1 m1 p k => ?_)⟩
  rw [p 902 (v3 + 1) (by decide), p 902 (v3 + 2) (by decide), p 902 (v3 + 3) (by decide), p 903 0 (by decide)]
  exact ⟨by omega, k _ (fun m2 p2 i2 => ⟨fun _ => K m2 _ _ p2 i2, fun n => absurd rfl n⟩)⟩
theorem lw_453 {v3 : Int} {w4 w6 : Option vm_V} {Q : Int → vm_M → Prop} (hv : 0 ≤ v3) (hL : v3 + 6 ≤ m 903 0) (hM : m 903 0 ≤ 3072) (hx : ∀ j, vm_32 (m 902 j)) (hI : INV m) (K : ∀ m' w4 w6, vP m m' → INV m' → kuL_law_1673 v3 w4 w6 m' Q) : kuL_law_453 v3 w4 w6 m Q := by
  obtain ⟨D, E, z, c, hZ, rx, rm⟩ := hI
  refine ruL_law_453 ⟨by omega, law_g (q_setBreak c hZ rx rm (fun w m2 p2 i2 => ⟨rfl, p2, i2⟩)) (fun z1 m1 p k => ?_)⟩
  rw [p 902 (v3 + 1) (by decide), p 903 0 (by decide)]
  exact ⟨by omega, k _ (fun m2 p2 i2 => ⟨fun _ => K m2 _ _ p2 i2, fun n => absurd rfl n⟩)⟩
theorem lw_476 {v3 : Int} {w4 w6 : Option vm_V} {Q : Int → vm_M → Prop} (hv : 0 ≤ v3) (hL : v3 + 6 ≤ m 903 0) (hM : m 903 0 ≤ 3072) (hx : ∀ j, vm_32 (m 902 j)) (hI : INV m) (K : ∀ m' w4 w6, vP m m' → INV m' → kuL_law_1673 v3 w4 w6 m' Q) : kuL_law_476 v3 w4 w6 m Q := by
  obtain ⟨D, E, z, c, hZ, rx, rm⟩ := hI
  refine ruL_law_476 ⟨by omega, fun q => law_g (q_setFill c hZ rx rm (by decide) (fun w m2 p2 i2 => ⟨rfl, p2, i2⟩)) (fun z1 m1 p k => ?_), fun q => law_g (q_setFill c hZ rx rm (by decide) (fun w m2 p2 i2 => ⟨rfl, p2, i2⟩)) (fun z1 m1 p k => ?_)⟩
  · rw [p 902 (v3 + 1) (by decide), p 903 0 (by decide)]
    exact ⟨by omega, fun _ => k _ (fun m2 p2 i2 => ⟨fun _ => K m2 _ _ p2 i2, fun n => absurd rfl n⟩), fun n => absurd q n⟩
  · rw [p 902 (v3 + 1) (by decide), p 903 0 (by decide)]
    exact ⟨by omega, fun n => absurd n q, fun _ => k _ (fun m2 p2 i2 => ⟨fun _ => K m2 _ _ p2 i2, fun n => absurd rfl n⟩)⟩
theorem lw_515 {v3 : Int} {w4 w6 : Option vm_V} {Q : Int → vm_M → Prop} (hv : 0 ≤ v3) (hL : v3 + 6 ≤ m 903 0) (hM : m 903 0 ≤ 3072) (hx : ∀ j, vm_32 (m 902 j)) (hI : INV m) (K : ∀ m' w4 w6, vP m m' → INV m' → kuL_law_1673 v3 w4 w6 m' Q) : kuL_law_515 v3 w4 w6 m Q := by
  obtain ⟨D, E, z, c, hZ, rx, rm⟩ := hI
  refine ruL_law_515 ⟨by omega, law_g (q_swap c hZ rx rm (fun w m2 p2 i2 => ⟨rfl, p2, i2⟩)) (fun z1 m1 p k => ?_)⟩
  rw [p 902 (v3 + 1) (by decide), p 902 (v3 + 2) (by decide), p 903 0 (by decide)]
  exact ⟨by omega, k _ (fun m2 p2 i2 => ⟨fun _ => K m2 _ _ p2 i2, fun n => absurd rfl n⟩)⟩
theorem lw_548 {v3 : Int} {w4 w6 : Option vm_V} {Q : Int → vm_M → Prop} (hv : 0 ≤ v3) (hL : v3 + 6 ≤ m 903 0) (hM : m 903 0 ≤ 3072) (hx : ∀ j, vm_32 (m 902 j)) (hI : INV m) (K : ∀ m' w4 w6, vP m m' → INV m' → kuL_law_1673 v3 w4 w6 m' Q) : kuL_law_548 v3 w4 w6 m Q := by
  obtain ⟨D, E, z, c, hZ, rx, rm⟩ := hI
  refine ruL_law_548 ⟨by omega, law_g (q_keep c hZ rx rm (fun w m2 p2 i2 => ⟨rfl, p2, i2⟩)) (fun z1 m1 p k => ?_)⟩
  rw [p 902 (v3 + 1) (by decide), p 903 0 (by decide)]
  exact ⟨by omega, k _ (fun m2 p2 i2 => ⟨fun _ => K m2 _ _ p2 i2, fun n => absurd rfl n⟩)⟩
theorem lw_571 {v3 : Int} {w4 w6 : Option vm_V} {Q : Int → vm_M → Prop} (hv : 0 ≤ v3) (hL : v3 + 6 ≤ m 903 0) (hM : m 903 0 ≤ 3072) (hx : ∀ j, vm_32 (m 902 j)) (hI : INV m) (K : ∀ m' w4 w6, vP m m' → INV m' → kuL_law_1673 v3 w4 w6 m' Q) : kuL_law_571 v3 w4 w6 m Q := by
  obtain ⟨D, E, z, c, hZ, rx, rm⟩ := hI
  refine ruL_law_571 ⟨by omega, law_g (q_restore c hZ rx rm (fun w m2 p2 i2 => ⟨rfl, p2, i2⟩)) (fun z1 m1 p k => ?_)⟩
  rw [p 902 (v3 + 1) (by decide), p 903 0 (by decide)]
  exact ⟨by omega, k _ (fun m2 p2 i2 => ⟨fun _ => K m2 _ _ p2 i2, fun n => absurd rfl n⟩)⟩
theorem lw_594 {v3 : Int} {w4 w6 : Option vm_V} {Q : Int → vm_M → Prop} (hv : 0 ≤ v3) (hL : v3 + 6 ≤ m 903 0) (hM : m 903 0 ≤ 3072) (hx : ∀ j, vm_32 (m 902 j)) (hI : INV m) (K : ∀ m' w4 w6, vP m m' → INV m' → kuL_law_1673 v3 w4 w6 m' Q) : kuL_law_594 v3 w4 w6 m Q := by
  obtain ⟨D, E, z, c, hZ, rx, rm⟩ := hI
  exact ruL_law_594 (law_g (q_undo c hZ rx rm (fun w m2 p2 i2 => ⟨rfl, p2, i2⟩)) (fun z1 m1 p k => k _ (fun m2 p2 i2 => ⟨fun _ => K m2 _ _ p2 i2, fun n => absurd rfl n⟩)))
theorem lw_607 {v3 : Int} {w4 w6 : Option vm_V} {Q : Int → vm_M → Prop} (hv : 0 ≤ v3) (hL : v3 + 6 ≤ m 903 0) (hM : m 903 0 ≤ 3072) (hx : ∀ j, vm_32 (m 902 j)) (hI : INV m) (K : ∀ m' w4 w6, vP m m' → INV m' → kuL_law_1673 v3 w4 w6 m' Q) : kuL_law_607 v3 w4 w6 m Q := by
  obtain ⟨D, E, z, c, hZ, rx, rm⟩ := hI
  refine ruL_law_607 ⟨by omega, law_g (q_value c (fun w m2 f2 c2 => ⟨rfl, vP.q f2, INV.q f2 c2 hZ rx rm⟩)) (fun z1 m1 p k => ?_)⟩
  rw [p 902 (v3 + 1) (by decide), p 903 0 (by decide)]
  exact ⟨by omega, k _ (fun m2 p2 i2 => ⟨fun _ => K m2 _ _ p2 i2, fun n => absurd rfl n⟩)⟩
theorem lw_630 {v3 : Int} {w4 w6 : Option vm_V} {Q : Int → vm_M → Prop} (hv : 0 ≤ v3) (hL : v3 + 6 ≤ m 903 0) (hM : m 903 0 ≤ 3072) (hx : ∀ j, vm_32 (m 902 j)) (hI : INV m) (K : ∀ m' w4 w6, vP m m' → INV m' → kuL_law_1673 v3 w4 w6 m' Q) : kuL_law_630 v3 w4 w6 m Q := by
  obtain ⟨D, E, z, c, hZ, rx, rm⟩ := hI
  refine ruL_law_630 ⟨by omega, fun q => ⟨by omega, law_g (q_inset c (by decide) (fun w m2 f2 c2 => ⟨rfl, vP.q f2, INV.q f2 c2 hZ rx rm⟩)) (fun z1 m1 p k => ?_)⟩, fun q => ⟨by omega, law_g (q_inset c (by decide) (fun w m2 f2 c2 => ⟨rfl, vP.q f2, INV.q f2 c2 hZ rx rm⟩)) (fun z1 m1 p k => ?_)⟩⟩
  · rw [p 902 (v3 + 1) (by decide), p 902 (v3 + 2) (by decide), p 902 (v3 + 3) (by decide), p 903 0 (by decide)]
    exact ⟨by omega, fun _ => ⟨by omega, k _ (fun m2 p2 i2 => ⟨fun _ => K m2 _ _ p2 i2, fun n => absurd rfl n⟩)⟩, fun n => absurd q n⟩
  · rw [p 902 (v3 + 1) (by decide), p 902 (v3 + 2) (by decide), p 902 (v3 + 3) (by decide), p 903 0 (by decide)]
    exact ⟨by omega, fun n => absurd n q, fun _ => ⟨by omega, k _ (fun m2 p2 i2 => ⟨fun _ => K m2 _ _ p2 i2, fun n => absurd rfl n⟩)⟩⟩
theorem lw_689 {v3 : Int} {w4 w6 : Option vm_V} {Q : Int → vm_M → Prop} (hv : 0 ≤ v3) (hL : v3 + 6 ≤ m 903 0) (hM : m 903 0 ≤ 3072) (hx : ∀ j, vm_32 (m 902 j)) (hI : INV m) (K : ∀ m' w4 w6, vP m m' → INV m' → kuL_law_1673 v3 w4 w6 m' Q) : kuL_law_689 v3 w4 w6 m Q := by
  obtain ⟨D, E, z, c, hZ, rx, rm⟩ := hI
  refine ruL_law_689 ⟨by omega, law_g (q_letter c (fun w m2 f2 c2 => ⟨rfl, vP.q f2, INV.q f2 c2 hZ rx rm⟩)) (fun z1 m1 p k => ?_)⟩
  rw [p 902 (v3 + 1) (by decide), p 902 (v3 + 2) (by decide), p 903 0 (by decide)]
  exact ⟨by omega, k _ (fun m2 p2 i2 => ⟨fun _ => K m2 _ _ p2 i2, fun n => absurd rfl n⟩)⟩
theorem lw_722 {v3 : Int} {w4 w6 : Option vm_V} {Q : Int → vm_M → Prop} (hv : 0 ≤ v3) (hL : v3 + 6 ≤ m 903 0) (hM : m 903 0 ≤ 3072) (hx : ∀ j, vm_32 (m 902 j)) (hI : INV m) (K : ∀ m' w4 w6, vP m m' → INV m' → kuL_law_1673 v3 w4 w6 m' Q) : kuL_law_722 v3 w4 w6 m Q := by
  obtain ⟨D, E, z, c, hZ, rx, rm⟩ := hI
  refine ruL_law_722 ⟨by omega, law_g (q_gapAt c (fun w m2 f2 c2 => ⟨rfl, vP.q f2, INV.q f2 c2 hZ rx rm⟩)) (fun z1 m1 p k => ?_)⟩
  rw [p 902 (v3 + 1) (by decide), p 902 (v3 + 2) (by decide), p 902 (v3 + 3) (by decide), p 903 0 (by decide)]
  exact ⟨by omega, k _ (fun m2 p2 i2 => ⟨fun _ => K m2 _ _ p2 i2, fun n => absurd rfl n⟩)⟩
theorem lw_765 {v3 : Int} {w4 w6 : Option vm_V} {Q : Int → vm_M → Prop} (hv : 0 ≤ v3) (hL : v3 + 6 ≤ m 903 0) (hM : m 903 0 ≤ 3072) (hx : ∀ j, vm_32 (m 902 j)) (hI : INV m) (K : ∀ m' w4 w6, vP m m' → INV m' → kuL_law_1673 v3 w4 w6 m' Q) : kuL_law_765 v3 w4 w6 m Q := by
  obtain ⟨D, E, z, c, hZ, rx, rm⟩ := hI
  refine ruL_law_765 ⟨by omega, law_g (q_distance c (fun w m2 f2 c2 => ⟨rfl, vP.q f2, INV.q f2 c2 hZ rx rm⟩)) (fun z1 m1 p k => ?_)⟩
  rw [p 902 (v3 + 1) (by decide), p 902 (v3 + 2) (by decide), p 902 (v3 + 3) (by decide), p 903 0 (by decide)]
  exact ⟨by omega, k _ (fun m2 p2 i2 => ⟨fun _ => K m2 _ _ p2 i2, fun n => absurd rfl n⟩)⟩
theorem lw_808 {v3 : Int} {w4 w6 : Option vm_V} {Q : Int → vm_M → Prop} (hv : 0 ≤ v3) (hL : v3 + 6 ≤ m 903 0) (hM : m 903 0 ≤ 3072) (hx : ∀ j, vm_32 (m 902 j)) (hI : INV m) (K : ∀ m' w4 w6, vP m m' → INV m' → kuL_law_1673 v3 w4 w6 m' Q) : kuL_law_808 v3 w4 w6 m Q := by
  obtain ⟨D, E, z, c, hZ, rx, rm⟩ := hI
  refine ruL_law_808 ⟨by omega, law_g (q_correction c (fun w m2 f2 c2 => ⟨rfl, vP.q f2, INV.q f2 c2 hZ rx rm⟩)) (fun z1 m1 p k => ?_)⟩
  rw [p 902 (v3 + 1) (by decide), p 902 (v3 + 2) (by decide), p 903 0 (by decide)]
  exact ⟨by omega, k _ (fun m2 p2 i2 => ⟨fun _ => K m2 _ _ p2 i2, fun n => absurd rfl n⟩)⟩
theorem lw_841 {v3 : Int} {w4 w6 : Option vm_V} {Q : Int → vm_M → Prop} (hv : 0 ≤ v3) (hL : v3 + 6 ≤ m 903 0) (hM : m 903 0 ≤ 3072) (hx : ∀ j, vm_32 (m 902 j)) (hI : INV m) (K : ∀ m' w4 w6, vP m m' → INV m' → kuL_law_1673 v3 w4 w6 m' Q) : kuL_law_841 v3 w4 w6 m Q := by
  obtain ⟨D, E, z, c, hZ, rx, rm⟩ := hI
  refine ruL_law_841 ⟨by omega, fun q => law_g (q_extreme c (fun w m2 f2 c2 => ⟨rfl, vP.q f2, INV.q f2 c2 hZ rx rm⟩)) (fun z1 m1 p k => ?_), fun q => law_g (q_extreme c (fun w m2 f2 c2 => ⟨rfl, vP.q f2, INV.q f2 c2 hZ rx rm⟩)) (fun z1 m1 p k => ?_)⟩
  · rw [p 902 (v3 + 1) (by decide), p 903 0 (by decide)]
    exact ⟨by omega, fun _ => k _ (fun m2 p2 i2 => ⟨fun _ => K m2 _ _ p2 i2, fun n => absurd rfl n⟩), fun n => absurd q n⟩
  · rw [p 902 (v3 + 1) (by decide), p 903 0 (by decide)]
    exact ⟨by omega, fun n => absurd n q, fun _ => k _ (fun m2 p2 i2 => ⟨fun _ => K m2 _ _ p2 i2, fun n => absurd rfl n⟩)⟩
theorem lw_880 {v3 : Int} {w4 w6 : Option vm_V} {Q : Int → vm_M → Prop} (hv : 0 ≤ v3) (hL : v3 + 6 ≤ m 903 0) (hM : m 903 0 ≤ 3072) (hx : ∀ j, vm_32 (m 902 j)) (hI : INV m) (K : ∀ m' w4 w6, vP m m' → INV m' → kuL_law_1673 v3 w4 w6 m' Q) : kuL_law_880 v3 w4 w6 m Q := by
  obtain ⟨D, E, z, c, hZ, rx, rm⟩ := hI
  refine ruL_law_880 ⟨by omega, law_g (q_mirrored c (fun w m2 f2 c2 => ⟨rfl, vP.q f2, INV.q f2 c2 hZ rx rm⟩)) (fun z1 m1 p k => ?_)⟩
  rw [p 902 (v3 + 1) (by decide), p 903 0 (by decide)]
  exact ⟨by omega, k _ (fun m2 p2 i2 => ⟨fun _ => K m2 _ _ p2 i2, fun n => absurd rfl n⟩)⟩
theorem lw_903 {v3 : Int} {w4 w6 : Option vm_V} {Q : Int → vm_M → Prop} (hv : 0 ≤ v3) (hL : v3 + 6 ≤ m 903 0) (hM : m 903 0 ≤ 3072) (hx : ∀ j, vm_32 (m 902 j)) (hI : INV m) (K : ∀ m' w4 w6, vP m m' → INV m' → kuL_law_1673 v3 w4 w6 m' Q) : kuL_law_903 v3 w4 w6 m Q := by
  obtain ⟨D, E, z, c, hZ, rx, rm⟩ := hI
  refine ruL_law_903 ⟨by omega, fun q => law_g (q_alike c (by decide) (fun w m2 f2 c2 => ⟨rfl, vP.q f2, INV.q f2 c2 hZ rx rm⟩)) (fun z1 m1 p k => ?_), fun q => law_g (q_alike c (by decide) (fun w m2 f2 c2 => ⟨rfl, vP.q f2, INV.q f2 c2 hZ rx rm⟩)) (fun z1 m1 p k => ?_)⟩
  · rw [p 902 (v3 + 1) (by decide), p 902 (v3 + 2) (by decide), p 903 0 (by decide)]
    exact ⟨by omega, fun _ => k _ (fun m2 p2 i2 => ⟨fun _ => K m2 _ _ p2 i2, fun n => absurd rfl n⟩), fun n => absurd q n⟩
  · rw [p 902 (v3 + 1) (by decide), p 902 (v3 + 2) (by decide), p 903 0 (by decide)]
    exact ⟨by omega, fun n => absurd n q, fun _ => k _ (fun m2 p2 i2 => ⟨fun _ => K m2 _ _ p2 i2, fun n => absurd rfl n⟩)⟩
theorem lw_952 {v3 : Int} {w4 w6 : Option vm_V} {Q : Int → vm_M → Prop} (hv : 0 ≤ v3) (hL : v3 + 6 ≤ m 903 0) (hM : m 903 0 ≤ 3072) (hx : ∀ j, vm_32 (m 902 j)) (hI : INV m) (K : ∀ m' w4 w6, vP m m' → INV m' → kuL_law_1673 v3 w4 w6 m' Q) : kuL_law_952 v3 w4 w6 m Q := by
  obtain ⟨D, E, z, c, hZ, rx, rm⟩ := hI
  refine ruL_law_952 ⟨by omega, law_g (q_word c (fun w m2 f2 c2 => ⟨rfl, vP.q f2, INV.q f2 c2 hZ rx rm⟩)) (fun z1 m1 p k => ?_)⟩
  rw [p 902 (v3 + 1) (by decide), p 902 (v3 + 2) (by decide), p 903 0 (by decide)]
  exact ⟨by omega, k _ (fun m2 p2 i2 => ⟨fun _ => K m2 _ _ p2 i2, fun n => absurd rfl n⟩)⟩
theorem lw_985 {v3 : Int} {w4 w6 : Option vm_V} {Q : Int → vm_M → Prop} (hv : 0 ≤ v3) (hL : v3 + 6 ≤ m 903 0) (hM : m 903 0 ≤ 3072) (hx : ∀ j, vm_32 (m 902 j)) (hI : INV m) (K : ∀ m' w4 w6, vP m m' → INV m' → kuL_law_1673 v3 w4 w6 m' Q) : kuL_law_985 v3 w4 w6 m Q := by
  obtain ⟨D, E, z, c, hZ, rx, rm⟩ := hI
  refine ruL_law_985 ⟨by omega, law_g (q_spelled c (fun w m2 f2 c2 => ⟨rfl, vP.q f2, INV.q f2 c2 hZ rx rm⟩)) (fun z1 m1 p k => ?_)⟩
  rw [p 902 (v3 + 1) (by decide), p 902 (v3 + 2) (by decide), p 903 0 (by decide)]
  exact ⟨by omega, k _ (fun m2 p2 i2 => ⟨fun _ => K m2 _ _ p2 i2, fun n => absurd rfl n⟩)⟩
theorem lw_1018 {v3 : Int} {w4 w6 : Option vm_V} {Q : Int → vm_M → Prop} (hv : 0 ≤ v3) (hL : v3 + 6 ≤ m 903 0) (hM : m 903 0 ≤ 3072) (hx : ∀ j, vm_32 (m 902 j)) (hI : INV m) (K : ∀ m' w4 w6, vP m m' → INV m' → kuL_law_1673 v3 w4 w6 m' Q) : kuL_law_1018 v3 w4 w6 m Q := by
  obtain ⟨D, E, z, c, hZ, rx, rm⟩ := hI
  exact ruL_law_1018 (law_g (q_longest c (fun w m2 f2 c2 => ⟨rfl, vP.q f2, INV.q f2 c2 hZ rx rm⟩)) (fun z1 m1 p k => k _ (fun m2 p2 i2 => ⟨fun _ => K m2 _ _ p2 i2, fun n => absurd rfl n⟩)))
theorem lw_1031 {v3 : Int} {w4 w6 : Option vm_V} {Q : Int → vm_M → Prop} (hv : 0 ≤ v3) (hL : v3 + 6 ≤ m 903 0) (hM : m 903 0 ≤ 3072) (hx : ∀ j, vm_32 (m 902 j)) (hI : INV m) (K : ∀ m' w4 w6, vP m m' → INV m' → kuL_law_1673 v3 w4 w6 m' Q) : kuL_law_1031 v3 w4 w6 m Q := by
  obtain ⟨D, E, z, c, hZ, rx, rm⟩ := hI
  refine ruL_law_1031 ⟨by omega, law_g (q_row c (fun w m2 f2 c2 => ⟨rfl, vP.q f2, INV.q f2 c2 hZ rx rm⟩)) (fun z1 m1 p k => ?_)⟩
  rw [p 902 (v3 + 1) (by decide), p 902 (v3 + 2) (by decide), p 903 0 (by decide)]
  exact ⟨by omega, k _ (fun m2 p2 i2 => ⟨fun _ => K m2 _ _ p2 i2, fun n => absurd rfl n⟩)⟩
theorem lw_1064 {v3 : Int} {w4 w6 : Option vm_V} {Q : Int → vm_M → Prop} (hv : 0 ≤ v3) (hL : v3 + 6 ≤ m 903 0) (hM : m 903 0 ≤ 3072) (hx : ∀ j, vm_32 (m 902 j)) (hI : INV m) (K : ∀ m' w4 w6, vP m m' → INV m' → kuL_law_1673 v3 w4 w6 m' Q) : kuL_law_1064 v3 w4 w6 m Q := by
  obtain ⟨D, E, z, c, hZ, rx, rm⟩ := hI
  refine ruL_law_1064 ⟨by omega, law_g (q_letterAt c (hx _) (fun w m2 f2 c2 => ⟨rfl, vP.q f2, INV.q f2 c2 hZ rx rm⟩)) (fun z1 m1 p k => ?_)⟩
  rw [p 902 (v3 + 1) (by decide), p 902 (v3 + 2) (by decide), p 903 0 (by decide)]
  exact ⟨by omega, k _ (fun m2 p2 i2 => ⟨fun _ => K m2 _ _ p2 i2, fun n => absurd rfl n⟩)⟩
theorem lw_1097 {v3 : Int} {w4 w6 : Option vm_V} {Q : Int → vm_M → Prop} (hv : 0 ≤ v3) (hL : v3 + 6 ≤ m 903 0) (hM : m 903 0 ≤ 3072) (hx : ∀ j, vm_32 (m 902 j)) (hI : INV m) (K : ∀ m' w4 w6, vP m m' → INV m' → kuL_law_1673 v3 w4 w6 m' Q) : kuL_law_1097 v3 w4 w6 m Q := by
  obtain ⟨D, E, z, c, hZ, rx, rm⟩ := hI
  refine ruL_law_1097 ⟨by omega, law_g (q_place c (hx _) (fun w m2 f2 c2 => ⟨rfl, vP.q f2, INV.q f2 c2 hZ rx rm⟩)) (fun z1 m1 p k => ?_)⟩
  rw [p 902 (v3 + 1) (by decide), p 902 (v3 + 2) (by decide), p 903 0 (by decide)]
  exact ⟨by omega, k _ (fun m2 p2 i2 => ⟨fun _ => K m2 _ _ p2 i2, fun n => absurd rfl n⟩)⟩
theorem lw_1130 {v3 : Int} {w4 w6 : Option vm_V} {Q : Int → vm_M → Prop} (hv : 0 ≤ v3) (hL : v3 + 6 ≤ m 903 0) (hM : m 903 0 ≤ 3072) (hx : ∀ j, vm_32 (m 902 j)) (hI : INV m) (K : ∀ m' w4 w6, vP m m' → INV m' → kuL_law_1673 v3 w4 w6 m' Q) : kuL_law_1130 v3 w4 w6 m Q := by
  obtain ⟨D, E, z, c, hZ, rx, rm⟩ := hI
  refine ruL_law_1130 ⟨by omega, law_g (q_gap c (hx _) (fun w m2 f2 c2 => ⟨rfl, vP.q f2, INV.q f2 c2 hZ rx rm⟩)) (fun z1 m1 p k => ?_)⟩
  rw [p 902 (v3 + 1) (by decide), p 902 (v3 + 2) (by decide), p 903 0 (by decide)]
  exact ⟨by omega, k _ (fun m2 p2 i2 => ⟨fun _ => K m2 _ _ p2 i2, fun n => absurd rfl n⟩)⟩
theorem lw_1163 {v3 : Int} {w4 w6 : Option vm_V} {Q : Int → vm_M → Prop} (hv : 0 ≤ v3) (hL : v3 + 6 ≤ m 903 0) (hM : m 903 0 ≤ 3072) (hx : ∀ j, vm_32 (m 902 j)) (hI : INV m) (K : ∀ m' w4 w6, vP m m' → INV m' → kuL_law_1673 v3 w4 w6 m' Q) : kuL_law_1163 v3 w4 w6 m Q := by
  obtain ⟨D, E, z, c, hZ, rx, rm⟩ := hI
  refine ruL_law_1163 ⟨by omega, law_g (q_uneven c (fun w m2 f2 c2 => ⟨rfl, vP.q f2, INV.q f2 c2 hZ rx rm⟩)) (fun z1 m1 p k => ?_)⟩
  rw [p 902 (v3 + 1) (by decide), p 903 0 (by decide)]
  exact ⟨by omega, k _ (fun m2 p2 i2 => ⟨fun _ => K m2 _ _ p2 i2, fun n => absurd rfl n⟩)⟩
theorem lw_1186 {v3 : Int} {w4 w6 : Option vm_V} {Q : Int → vm_M → Prop} (hv : 0 ≤ v3) (hL : v3 + 6 ≤ m 903 0) (hM : m 903 0 ≤ 3072) (hx : ∀ j, vm_32 (m 902 j)) (hI : INV m) (K : ∀ m' w4 w6, vP m m' → INV m' → kuL_law_1673 v3 w4 w6 m' Q) : kuL_law_1186 v3 w4 w6 m Q := by
  obtain ⟨D, E, z, c, hZ, rx, rm⟩ := hI
  refine ruL_law_1186 ⟨by omega, law_g (q_white c (hx _) (fun w m2 f2 c2 => ⟨rfl, vP.q f2, INV.q f2 c2 hZ rx rm⟩)) (fun z1 m1 p k => ?_)⟩
  rw [p 902 (v3 + 1) (by decide), p 902 (v3 + 2) (by decide), p 902 (v3 + 3) (by decide), p 903 0 (by decide)]
  exact ⟨by omega, k _ (fun m2 p2 i2 => ⟨fun _ => K m2 _ _ p2 i2, fun n => absurd rfl n⟩)⟩
theorem lw_1229 {v3 : Int} {w4 w6 : Option vm_V} {Q : Int → vm_M → Prop} (hv : 0 ≤ v3) (hL : v3 + 6 ≤ m 903 0) (hM : m 903 0 ≤ 3072) (hx : ∀ j, vm_32 (m 902 j)) (hI : INV m) (K : ∀ m' w4 w6, vP m m' → INV m' → kuL_law_1673 v3 w4 w6 m' Q) : kuL_law_1229 v3 w4 w6 m Q := by
  obtain ⟨D, E, z, c, hZ, rx, rm⟩ := hI
  refine ruL_law_1229 ⟨by omega, law_g (q_touches c (fun w m2 f2 c2 => ⟨rfl, vP.q f2, INV.q f2 c2 hZ rx rm⟩)) (fun z1 m1 p k => ?_)⟩
  rw [p 902 (v3 + 1) (by decide), p 903 0 (by decide)]
  exact ⟨by omega, k _ (fun m2 p2 i2 => ⟨fun _ => K m2 _ _ p2 i2, fun n => absurd rfl n⟩)⟩
theorem lw_1252 {v3 : Int} {w4 w6 : Option vm_V} {Q : Int → vm_M → Prop} (hv : 0 ≤ v3) (hL : v3 + 6 ≤ m 903 0) (hM : m 903 0 ≤ 3072) (hx : ∀ j, vm_32 (m 902 j)) (hI : INV m) (K : ∀ m' w4 w6, vP m m' → INV m' → kuL_law_1673 v3 w4 w6 m' Q) : kuL_law_1252 v3 w4 w6 m Q := by
  obtain ⟨D, E, z, c, hZ, rx, rm⟩ := hI
  refine ruL_law_1252 ⟨by omega, fun q => law_g (q_widest c (fun w m2 f2 c2 => ⟨rfl, vP.q f2, INV.q f2 c2 hZ rx rm⟩)) (fun z1 m1 p k => ?_), fun q => law_g (q_widest c (fun w m2 f2 c2 => ⟨rfl, vP.q f2, INV.q f2 c2 hZ rx rm⟩)) (fun z1 m1 p k => ?_)⟩
  · rw [p 902 (v3 + 1) (by decide), p 903 0 (by decide)]
    exact ⟨by omega, fun _ => k _ (fun m2 p2 i2 => ⟨fun _ => K m2 _ _ p2 i2, fun n => absurd rfl n⟩), fun n => absurd q n⟩
  · rw [p 902 (v3 + 1) (by decide), p 903 0 (by decide)]
    exact ⟨by omega, fun n => absurd n q, fun _ => k _ (fun m2 p2 i2 => ⟨fun _ => K m2 _ _ p2 i2, fun n => absurd rfl n⟩)⟩
theorem lw_1291 {v3 : Int} {w4 w6 : Option vm_V} {Q : Int → vm_M → Prop} (hv : 0 ≤ v3) (hL : v3 + 6 ≤ m 903 0) (hM : m 903 0 ≤ 3072) (hx : ∀ j, vm_32 (m 902 j)) (hI : INV m) (K : ∀ m' w4 w6, vP m m' → INV m' → kuL_law_1673 v3 w4 w6 m' Q) : kuL_law_1291 v3 w4 w6 m Q := by
  obtain ⟨D, E, z, c, hZ, rx, rm⟩ := hI
  refine ruL_law_1291 ⟨by omega, law_g (q_at c (fun w m2 f2 c2 => ⟨rfl, vP.q f2, INV.q f2 c2 hZ rx rm⟩)) (fun z1 m1 p k => ?_)⟩
  rw [p 902 (v3 + 1) (by decide), p 902 (v3 + 2) (by decide), p 903 0 (by decide)]
  exact ⟨by omega, k _ (fun m2 p2 i2 => ⟨fun _ => K m2 _ _ p2 i2, fun n => absurd rfl n⟩)⟩
theorem lw_1324 {v3 : Int} {w4 w6 : Option vm_V} {Q : Int → vm_M → Prop} (hv : 0 ≤ v3) (hL : v3 + 6 ≤ m 903 0) (hM : m 903 0 ≤ 3072) (hx : ∀ j, vm_32 (m 902 j)) (hI : INV m) (K : ∀ m' w4 w6, vP m m' → INV m' → kuL_law_1673 v3 w4 w6 m' Q) : kuL_law_1324 v3 w4 w6 m Q := by
  obtain ⟨D, E, z, c, hZ, rx, rm⟩ := hI
  exact ruL_law_1324 (law_g (q_fits c (fun w m2 f2 c2 => ⟨rfl, vP.q f2, INV.q f2 c2 hZ rx rm⟩)) (fun z1 m1 p k => k _ (fun m2 p2 i2 => ⟨fun _ => K m2 _ _ p2 i2, fun n => absurd rfl n⟩)))
theorem lw_1337 {v3 : Int} {w4 w6 : Option vm_V} {Q : Int → vm_M → Prop} (hv : 0 ≤ v3) (hL : v3 + 6 ≤ m 903 0) (hM : m 903 0 ≤ 3072) (hx : ∀ j, vm_32 (m 902 j)) (hI : INV m) (K : ∀ m' w4 w6, vP m m' → INV m' → kuL_law_1673 v3 w4 w6 m' Q) : kuL_law_1337 v3 w4 w6 m Q := by
  obtain ⟨D, E, z, c, hZ, rx, rm⟩ := hI
  exact ruL_law_1337 (law_g (q_bestSize c rx.2.2.2.2 (fun w m2 f2 c2 => ⟨rfl, vP.q f2, INV.q f2 c2 hZ rx rm⟩)) (fun z1 m1 p k => k _ (fun m2 p2 i2 => ⟨fun _ => K m2 _ _ p2 i2, fun n => absurd rfl n⟩)))
theorem lw_1350 {v3 : Int} {w4 w6 : Option vm_V} {Q : Int → vm_M → Prop} (hv : 0 ≤ v3) (hL : v3 + 6 ≤ m 903 0) (hM : m 903 0 ≤ 3072) (hx : ∀ j, vm_32 (m 902 j)) (hI : INV m) (K : ∀ m' w4 w6, vP m m' → INV m' → kuL_law_1673 v3 w4 w6 m' Q) : kuL_law_1350 v3 w4 w6 m Q := by
  obtain ⟨D, E, z, c, hZ, rx, rm⟩ := hI
  exact ruL_law_1350 (law_g (q_bestGap c (fun w m2 f2 c2 => ⟨rfl, vP.q f2, INV.q f2 c2 hZ rx rm⟩)) (fun z1 m1 p k => k _ (fun m2 p2 i2 => ⟨fun _ => K m2 _ _ p2 i2, fun n => absurd rfl n⟩)))
theorem lw_1363 {v3 : Int} {w4 w6 : Option vm_V} {Q : Int → vm_M → Prop} (hv : 0 ≤ v3) (hL : v3 + 6 ≤ m 903 0) (hM : m 903 0 ≤ 3072) (hx : ∀ j, vm_32 (m 902 j)) (hI : INV m) (K : ∀ m' w4 w6, vP m m' → INV m' → kuL_law_1673 v3 w4 w6 m' Q) : kuL_law_1363 v3 w4 w6 m Q := by
  obtain ⟨D, E, z, c, hZ, rx, rm⟩ := hI
  refine ruL_law_1363 ⟨by omega, law_g (q_leastInner c rx.2.2.2.2 (fun w m2 f2 c2 => ⟨rfl, vP.q f2, INV.q f2 c2 hZ rx rm⟩)) (fun z1 m1 p k => ?_)⟩
  rw [p 902 (v3 + 1) (by decide), p 903 0 (by decide)]
  exact ⟨by omega, k _ (fun m2 p2 i2 => ⟨fun _ => K m2 _ _ p2 i2, fun n => absurd rfl n⟩)⟩
theorem lw_1386 {v3 : Int} {w4 w6 : Option vm_V} {Q : Int → vm_M → Prop} (hv : 0 ≤ v3) (hL : v3 + 6 ≤ m 903 0) (hM : m 903 0 ≤ 3072) (hx : ∀ j, vm_32 (m 902 j)) (hI : INV m) (K : ∀ m' w4 w6, vP m m' → INV m' → kuL_law_1673 v3 w4 w6 m' Q) : kuL_law_1386 v3 w4 w6 m Q := by
  obtain ⟨D, E, z, c, hZ, rx, rm⟩ := hI
  exact ruL_law_1386 (law_g (q_height c (fun w m2 f2 c2 => ⟨rfl, vP.q f2, INV.q f2 c2 hZ rx rm⟩)) (fun z1 m1 p k => k _ (fun m2 p2 i2 => ⟨fun _ => K m2 _ _ p2 i2, fun n => absurd rfl n⟩)))
theorem lw_1399 {v3 : Int} {w4 w6 : Option vm_V} {Q : Int → vm_M → Prop} (hv : 0 ≤ v3) (hL : v3 + 6 ≤ m 903 0) (hM : m 903 0 ≤ 3072) (hx : ∀ j, vm_32 (m 902 j)) (hI : INV m) (K : ∀ m' w4 w6, vP m m' → INV m' → kuL_law_1673 v3 w4 w6 m' Q) : kuL_law_1399 v3 w4 w6 m Q := by
  obtain ⟨D, E, z, c, hZ, rx, rm⟩ := hI
  exact ruL_law_1399 (law_g (q_cost c (fun w m2 f2 c2 => ⟨rfl, vP.q f2, INV.q f2 c2 hZ rx rm⟩)) (fun z1 m1 p k => k _ (fun m2 p2 i2 => ⟨fun _ => K m2 _ _ p2 i2, fun n => absurd rfl n⟩)))
theorem lw_1412 {v3 : Int} {w4 w6 : Option vm_V} {Q : Int → vm_M → Prop} (hv : 0 ≤ v3) (hL : v3 + 6 ≤ m 903 0) (hM : m 903 0 ≤ 3072) (hx : ∀ j, vm_32 (m 902 j)) (hI : INV m) (K : ∀ m' w4 w6, vP m m' → INV m' → kuL_law_1673 v3 w4 w6 m' Q) : kuL_law_1412 v3 w4 w6 m Q := by
  obtain ⟨D, E, z, c, hZ, rx, rm⟩ := hI
  exact ruL_law_1412 (law_g (q_leastCost c (fun w m2 f2 c2 => ⟨rfl, vP.q f2, INV.q f2 c2 hZ rx rm⟩)) (fun z1 m1 p k => k _ (fun m2 p2 i2 => ⟨fun _ => K m2 _ _ p2 i2, fun n => absurd rfl n⟩)))
theorem lw_1425 {v3 : Int} {w4 w6 : Option vm_V} {Q : Int → vm_M → Prop} (hv : 0 ≤ v3) (hL : v3 + 6 ≤ m 903 0) (hM : m 903 0 ≤ 3072) (hx : ∀ j, vm_32 (m 902 j)) (hI : INV m) (K : ∀ m' w4 w6, vP m m' → INV m' → kuL_law_1673 v3 w4 w6 m' Q) : kuL_law_1425 v3 w4 w6 m Q := by
  obtain ⟨D, E, z, c, hZ, rx, rm⟩ := hI
  refine ruL_law_1425 ⟨by omega, law_g (q_fillGap c (fun w m2 f2 c2 => ⟨rfl, vP.q f2, INV.q f2 c2 hZ rx rm⟩)) (fun z1 m1 p k => ?_)⟩
  rw [p 902 (v3 + 1) (by decide), p 903 0 (by decide)]
  exact ⟨by omega, k _ (fun m2 p2 i2 => ⟨fun _ => K m2 _ _ p2 i2, fun n => absurd rfl n⟩)⟩
theorem lw_1448 {v3 : Int} {w4 w6 : Option vm_V} {Q : Int → vm_M → Prop} (hv : 0 ≤ v3) (hL : v3 + 6 ≤ m 903 0) (hM : m 903 0 ≤ 3072) (hx : ∀ j, vm_32 (m 902 j)) (hI : INV m) (K : ∀ m' w4 w6, vP m m' → INV m' → kuL_law_1673 v3 w4 w6 m' Q) : kuL_law_1448 v3 w4 w6 m Q := by
  obtain ⟨D, E, z, c, hZ, rx, rm⟩ := hI
  exact ruL_law_1448 (law_g (q_bestSwap c (fun w m2 f2 c2 => ⟨rfl, vP.q f2, INV.q f2 c2 hZ rx rm⟩)) (fun z1 m1 p k => k _ (fun m2 p2 i2 => ⟨fun _ => K m2 _ _ p2 i2, fun n => absurd rfl n⟩)))
theorem lw_1461 {v3 : Int} {w4 w6 : Option vm_V} {Q : Int → vm_M → Prop} (hv : 0 ≤ v3) (hL : v3 + 6 ≤ m 903 0) (hM : m 903 0 ≤ 3072) (hx : ∀ j, vm_32 (m 902 j)) (hI : INV m) (K : ∀ m' w4 w6, vP m m' → INV m' → kuL_law_1673 v3 w4 w6 m' Q) : kuL_law_1461 v3 w4 w6 m Q := by
  obtain ⟨D, E, z, c, hZ, rx, rm⟩ := hI
  refine ruL_law_1461 ⟨by omega, law_g (q_bestCorrection c (fun w m2 f2 c2 => ⟨rfl, vP.q f2, INV.q f2 c2 hZ rx rm⟩)) (fun z1 m1 p k => ?_)⟩
  rw [p 902 (v3 + 1) (by decide), p 902 (v3 + 2) (by decide), p 903 0 (by decide)]
  exact ⟨by omega, k _ (fun m2 p2 i2 => ⟨fun _ => K m2 _ _ p2 i2, fun n => absurd rfl n⟩)⟩
theorem lw_1588 {v3 : Int} {w4 w6 : Option vm_V} {Q : Int → vm_M → Prop} (hv : 0 ≤ v3) (hL : v3 + 6 ≤ m 903 0) (hM : m 903 0 ≤ 3072) (hx : ∀ j, vm_32 (m 902 j)) (hI : INV m) (K : ∀ m' w4 w6, vP m m' → INV m' → kuL_law_1673 v3 w4 w6 m' Q) : kuL_law_1588 v3 w4 w6 m Q := by
  obtain ⟨D, E, z, c, hZ, rx, rm⟩ := hI
  exact ruL_law_1588 (law_g (q_viewLength c (fun w m2 f2 c2 => ⟨rfl, vP.q f2, INV.q f2 c2 hZ rx rm⟩)) (fun z1 m1 p k => k _ (fun m2 p2 i2 => ⟨fun _ => K m2 _ _ p2 i2, fun n => absurd rfl n⟩)))
theorem lw_1601 {v3 : Int} {w4 w6 : Option vm_V} {Q : Int → vm_M → Prop} (hv : 0 ≤ v3) (hL : v3 + 6 ≤ m 903 0) (hM : m 903 0 ≤ 3072) (hx : ∀ j, vm_32 (m 902 j)) (hI : INV m) (K : ∀ m' w4 w6, vP m m' → INV m' → kuL_law_1673 v3 w4 w6 m' Q) : kuL_law_1601 v3 w4 w6 m Q := by
  obtain ⟨D, E, z, c, hZ, rx, rm⟩ := hI
  refine ruL_law_1601 ⟨by omega, law_g (q_viewByte c (fun w m2 f2 c2 => ⟨rfl, vP.q f2, INV.q f2 c2 hZ rx rm⟩)) (fun z1 m1 p k => ?_)⟩
  rw [p 902 (v3 + 1) (by decide), p 903 0 (by decide)]
  exact ⟨by omega, k _ (fun m2 p2 i2 => ⟨fun _ => K m2 _ _ p2 i2, fun n => absurd rfl n⟩)⟩
theorem lw_1624 {v3 : Int} {w4 w6 : Option vm_V} {Q : Int → vm_M → Prop} (hv : 0 ≤ v3) (hL : v3 + 6 ≤ m 903 0) (hM : m 903 0 ≤ 3072) (hx : ∀ j, vm_32 (m 902 j)) (hI : INV m) (K : ∀ m' w4 w6, vP m m' → INV m' → kuL_law_1673 v3 w4 w6 m' Q) : kuL_law_1624 v3 w4 w6 m Q := by
  obtain ⟨D, E, z, c, hZ, rx, rm⟩ := hI
  exact ruL_law_1624 (law_g (q_setupLength c (fun w m2 f2 c2 => ⟨rfl, vP.q f2, INV.q f2 c2 hZ rx rm⟩)) (fun z1 m1 p k => k _ (fun m2 p2 i2 => ⟨fun _ => K m2 _ _ p2 i2, fun n => absurd rfl n⟩)))
theorem lw_1637 {v3 : Int} {w4 w6 : Option vm_V} {Q : Int → vm_M → Prop} (hv : 0 ≤ v3) (hL : v3 + 6 ≤ m 903 0) (hM : m 903 0 ≤ 3072) (hx : ∀ j, vm_32 (m 902 j)) (hI : INV m) (K : ∀ m' w4 w6, vP m m' → INV m' → kuL_law_1673 v3 w4 w6 m' Q) : kuL_law_1637 v3 w4 w6 m Q := by
  obtain ⟨D, E, z, c, hZ, rx, rm⟩ := hI
  refine ruL_law_1637 ⟨by omega, law_g (q_setupByte c (fun w m2 f2 c2 => ⟨rfl, vP.q f2, INV.q f2 c2 hZ rx rm⟩)) (fun z1 m1 p k => ?_)⟩
  rw [p 902 (v3 + 1) (by decide), p 903 0 (by decide)]
  exact ⟨by omega, k _ (fun m2 p2 i2 => ⟨fun _ => K m2 _ _ p2 i2, fun n => absurd rfl n⟩)⟩
theorem lw_1660 {v3 : Int} {w4 w6 : Option vm_V} {Q : Int → vm_M → Prop} (hv : 0 ≤ v3) (hL : v3 + 6 ≤ m 903 0) (hM : m 903 0 ≤ 3072) (hx : ∀ j, vm_32 (m 902 j)) (hI : INV m) (K : ∀ m' w4 w6, vP m m' → INV m' → kuL_law_1673 v3 w4 w6 m' Q) : kuL_law_1660 v3 w4 w6 m Q := by
  obtain ⟨D, E, z, c, hZ, rx, rm⟩ := hI
  exact ruL_law_1660 (law_g (q_tapeLength c hZ rx rm (fun w m2 p2 i2 => ⟨rfl, p2, i2⟩)) (fun z1 m1 p k => k _ (fun m2 p2 i2 => ⟨fun _ => K m2 _ _ p2 i2, fun n => absurd rfl n⟩)))
theorem law_dc {a : UInt64} (h : FP.Core.val64 a ≠ .nan) : (Op.cmpValue (FP.dcmp a a) .l).toInt = 0 := by
  rw [show FP.dcmp a a = some .eq from FP.Core.dcmp_self h]
  rfl
theorem law_f2d {a : UInt32} (h : FP.Core.val32 a ≠ .nan) : FP.Core.val64 (FP.f2d a) ≠ .nan := by
  have e := FP.f2d_nan a
  intro q
  rw [show FP.dIsNaN (FP.f2d a) = true from (FP.Core.dIsNaN_iff _).mpr q] at e
  exact h ((FP.Core.fIsNaN_iff _).mp e.symm)
theorem lw_1494 {v3 : Int} {w4 w6 : Option vm_V} {Q : Int → vm_M → Prop} (hv : 0 ≤ v3) (hL : v3 + 6 ≤ m 903 0) (hM : m 903 0 ≤ 3072) (hx : ∀ j, vm_32 (m 902 j)) (hI : INV m) (K : ∀ m' w4 w6, vP m m' → INV m' → kuL_law_1673 v3 w4 w6 m' Q) : kuL_law_1494 v3 w4 w6 m Q := by
  obtain ⟨D, E, z, c, hZ, rx, rm⟩ := hI
  have hn := law_f2d (yfull_n c.1 (row := m 902 (v3 + 1)))
  refine ruL_law_1494 ⟨by omega, vm_G.mono (q_full c (G := fun z1 z2 m2 => z1 = z2 ∧ z2 = yfull D E (m 902 (v3 + 1)) ∧ vP m m2 ∧ INV m2) (fun m2 f2 c2 => ⟨rfl, rfl, vP.q f2, INV.q f2 c2 hZ rx rm⟩)) ?_⟩
  rintro _ m1 ⟨z1, rfl, rfl, p, k⟩
  refine ⟨_, rfl, ?_⟩
  dsimp only
  rw [p 902 (v3 + 1) (by decide), p 903 0 (by decide)]
  refine ⟨⟨fl_n64 hn, by omega⟩, vm_G.mono k ?_⟩
  rintro _ m2 ⟨z2, rfl, -, rfl, p2, i2⟩
  exact ⟨_, rfl, fl_n64 hn, fun _ => K m2 _ _ p2 i2, fun n => absurd (law_dc hn) n⟩
theorem lw_1547 {v3 : Int} {w4 w6 : Option vm_V} {Q : Int → vm_M → Prop} (hv : 0 ≤ v3) (hL : v3 + 6 ≤ m 903 0) (hM : m 903 0 ≤ 3072) (hx : ∀ j, vm_32 (m 902 j)) (hI : INV m) (K : ∀ m' w4 w6, vP m m' → INV m' → kuL_law_1673 v3 w4 w6 m' Q) : kuL_law_1547 v3 w4 w6 m Q := by
  obtain ⟨D, E, z, c, hZ, rx, rm⟩ := hI
  have hn := ymean_n c.1
  refine ruL_law_1547 (vm_G.mono (q_meanGap c (G := fun z1 z2 m2 => z1 = z2 ∧ z2 = ymean D E ∧ vP m m2 ∧ INV m2) (fun m2 f2 c2 => ⟨rfl, rfl, vP.q f2, INV.q f2 c2 hZ rx rm⟩)) ?_)
  rintro _ m1 ⟨z1, rfl, rfl, p, k⟩
  refine ⟨_, rfl, vm_G.mono k ?_⟩
  rintro _ m2 ⟨z2, rfl, -, rfl, p2, i2⟩
  exact ⟨_, rfl, fun _ => K m2 _ _ p2 i2, fun n => absurd (law_dc hn) n⟩
end LC
