/-! ===== the nodes that the law's rules are told in ===== -/
/-- a call of a method of the class on the object at handle o: what it answers, what comes then -/
def lNn (g o : Nat) (as : List Int) (S : lwS) (P : Int → lwS → Prop) : Prop := ∃ m, S.1 o = some (lbI m) ∧ vm_C g (vm_r 0 :: as.map vm_i) m (vm_qi (fun z m' => P z (lup S.1 o (lbI m'), S.2)))
def lNf (g o : Nat) (as : List Int) (S : lwS) (P : UInt32 → lwS → Prop) : Prop := ∃ m, S.1 o = some (lbI m) ∧ vm_C g (vm_r 0 :: as.map vm_i) m (vm_qf (fun z m' => P z (lup S.1 o (lbI m'), S.2)))
def lNd (g o : Nat) (as : List Int) (S : lwS) (P : UInt64 → lwS → Prop) : Prop := ∃ m, S.1 o = some (lbI m) ∧ vm_C g (vm_r 0 :: as.map vm_i) m (vm_qd (fun z m' => P z (lup S.1 o (lbI m'), S.2)))
/-- a call of a method of the law -/
def lC (K2 : lwK) (as : List vm_V) (S : lwS) (P : Option vm_V → lwS → Prop) : Prop := ∃ cB zB, (cB ≤ S.2.1 ∧ zB ≤ S.2.2) ∧ lG K2 0 (lEn K2 as) [] (S.1, cB, zB) (fun r S' => P r (S'.1, S.2.1 - cB, S.2.2 - zB))
def lCi (K2 : lwK) (as : List vm_V) (S : lwS) (P : Int → lwS → Prop) : Prop := lC K2 as S (fun r S' => ∃ z, r = some (vm_i z) ∧ P z S')
def lCr (K2 : lwK) (as : List vm_V) (S : lwS) (P : Nat → lwS → Prop) : Prop := lC K2 as S (fun r S' => ∃ z, r = some (vm_r z) ∧ P z S')
def lCv (K2 : lwK) (as : List vm_V) (S : lwS) (P : lwS → Prop) : Prop := lC K2 as S (fun r S' => r = none ∧ P S')
/-- builders of text -/
def lAp (b : Nat) (w : List Int) (S : lwS) (P : lwS → Prop) : Prop := ∃ l c, (S.1 b = some (lbB l c) ∧ 0 < c ∧ l.length + w.length ≤ 32767 ∧ sb_k (l.length + w.length) c ≤ S.2.1 ∧ sb_z (l.length + w.length) c ≤ S.2.2) ∧ P (lup S.1 b (lbB (l ++ w) (sb_cap (l.length + w.length) c)), S.2.1 - sb_k (l.length + w.length) c, S.2.2 - sb_z (l.length + w.length) c)
def lAc (b : Nat) (z : Int) (S : lwS) (P : lwS → Prop) : Prop := (0 ≤ z ∧ z < 128) ∧ lAp b [z] S P
def lAi (b : Nat) (z : Int) (S : lwS) (P : lwS → Prop) : Prop := (0 ≤ z ∧ z < 10000000) ∧ lAp b (lDec z.toNat) S P
def lAs (b r : Nat) (S : lwS) (P : lwS → Prop) : Prop := ∃ w, lStr S.1 r w ∧ lAp b w S P
def lTo (b : Nat) (S : lwS) (P : Nat → lwS → Prop) : Prop := ∃ l c, (S.1 b = some (lbB l c) ∧ 0 < c ∧ 2 ≤ S.2.1 ∧ 4 + l.length ≤ S.2.2) ∧ ∀ a, 100 ≤ a → S.1 a = none → P a (lup S.1 a (lbS l), S.2.1 - 2, S.2.2 - (4 + l.length))
def lNb (S : lwS) (P : Nat → lwS → Prop) : Prop := (1 ≤ S.2.1 ∧ 4 ≤ S.2.2) ∧ ∀ a, 100 ≤ a → S.1 a = none → P a (lup S.1 a (lbB [] 0), S.2.1 - 1, S.2.2 - 4)
def lI0 (b : Nat) (S : lwS) (P : lwS → Prop) : Prop := (S.1 b = some (lbB [] 0) ∧ 1 ≤ S.2.1 ∧ 16 ≤ S.2.2) ∧ P (lup S.1 b (lbB [] 16), S.2.1 - 1, S.2.2 - 16)
def lIs (b r : Nat) (S : lwS) (P : lwS → Prop) : Prop := ∃ w, lStr S.1 r w ∧ (S.1 b = some (lbB [] 0) ∧ w.length ≤ 32700 ∧ 1 ≤ S.2.1 ∧ w.length + 16 ≤ S.2.2) ∧ P (lup S.1 b (lbB w (w.length + 16)), S.2.1 - 1, S.2.2 - (w.length + 16))
/-- texts -/
def lEq (r1 r2 : Nat) (S : lwS) (P : Prop) : Prop := ∃ w, lStr S.1 r1 w ∧ lStr S.1 r2 w ∧ P
def lLn (r : Nat) (S : lwS) (P : Int → Prop) : Prop := ∃ w, lStr S.1 r w ∧ P (w.length : Int)
def lCh (r : Nat) (i : Int) (S : lwS) (P : Int → Prop) : Prop := ∃ w, lStr S.1 r w ∧ (0 ≤ i ∧ i < (w.length : Int)) ∧ P (w.getD i.toNat 0)
/-- rows of ints -/
def lLd (a : Nat) (i : Int) (S : lwS) (P : Int → Prop) : Prop := ∃ l, S.1 a = some (lbA l) ∧ (0 ≤ i ∧ i < (l.length : Int)) ∧ P (l.getD i.toNat 0)
def lSt (a : Nat) (i z : Int) (S : lwS) (P : lwS → Prop) : Prop := ∃ l, S.1 a = some (lbA l) ∧ (0 ≤ i ∧ i < (l.length : Int)) ∧ P (lup S.1 a (lbA (l.set i.toNat z)), S.2)
def lNi (N : Nat) (S : lwS) (P : Nat → lwS → Prop) : Prop := (1 ≤ S.2.1 ∧ N ≤ S.2.2) ∧ ∀ a, 100 ≤ a → S.1 a = none → P a (lup S.1 a (lbA (List.replicate N 0)), S.2.1 - 1, S.2.2 - N)
/-- an object of the class -/
def lNx (S : lwS) (P : Nat → lwS → Prop) : Prop := (1 + vm_mc 100 ≤ S.2.1 ∧ vm_nf 10 + vm_ms 100 ≤ S.2.2) ∧ ∀ a, 100 ≤ a → S.1 a = none → P a (lup S.1 a (lbI vm_m1), S.2.1 - (1 + vm_mc 100), S.2.2 - (vm_nf 10 + vm_ms 100))
section LNO
variable {K : lwK} {S : lwS} {Qp : Option vm_V → lwS → Prop} {pc idx : Nat} {ls : vm_L} {rest : List vm_V}
theorem lg_drop {ls' : vm_L} {st : List vm_V} (h : lG K pc ls st S Qp) (hl : ∀ k v, vm_gl ls k = some v → vm_gl ls' k = some v) : lG K pc ls' st S Qp := by
  intro p l9 e R s m args below meth cc dC dI CA AD base mcB msB Z C hZ H locs lsa cells slots hat hol hos hlv
  exact h p l9 e R s m args below meth cc dC dI CA AD base mcB msB Z C hZ H locs lsa cells slots hat (fun k v hk => hol k v (hl k v hk)) hos ⟨hlv.1, hlv.2.1, fun q hq => by
    obtain ⟨k, v, rfl, hk⟩ := vm_lv_mem.mp hq
    exact hlv.2.2 _ (vm_lv_mem.mpr ⟨k, v, rfl, hl k v hk⟩)⟩
/-- ls is ls' with some of it forgotten -/
def lSub : vm_L → vm_L → Prop
  | [], _ => True
  | none :: r, _ :: r' => lSub r r'
  | some v :: r, y :: r' => y = some v ∧ lSub r r'
  | none :: r, [] => lSub r []
  | some _ :: _, [] => False
theorem lSub_gl : ∀ {ls ls' : vm_L}, lSub ls ls' → ∀ k v, vm_gl ls k = some v → vm_gl ls' k = some v
  | [], _, _, k, v, h => by simp [vm_gl] at h
  | none :: r, y :: r', hs, 0, v, h => by simp [vm_gl] at h
  | none :: r, y :: r', hs, k + 1, v, h => lSub_gl (show lSub r r' from hs) k v h
  | some w :: r, y :: r', hs, 0, v, h => by
    have h : some w = some v := h
    rw [← h]; exact hs.1
  | some w :: r, y :: r', hs, k + 1, v, h => lSub_gl (show lSub r r' from hs.2) k v h
  | none :: r, [], hs, 0, v, h => by simp [vm_gl] at h
  | none :: r, [], hs, k + 1, v, h => by
    have := lSub_gl (show lSub r [] from hs) k v h
    simp [vm_gl] at this
  | some w :: r, [], hs, k, v, h => hs.elim
theorem lg_sub {ls' : vm_L} {st : List vm_V} (hs : lSub ls ls') (h : lG K pc ls st S Qp) : lG K pc ls' st S Qp := lg_drop h (lSub_gl hs)
theorem vm_C_mono {g : Nat} {av : List vm_V} {m : vm_M} {P Q : Option vm_V → vm_M → Prop} (h : vm_C g av m P) (hq : ∀ r m', P r m' → Q r m') : vm_C g av m Q := by
  obtain ⟨n, hn⟩ := h
  exact ⟨n, vm_wp_mono n (Nat.le_refl _) (Nat.le_refl _) hq hn⟩
theorem lg_N {o : Nat} {P : Int → lwS → Prop} (g : Nat) (as : List Int) (hg : lCls g as.length = true) (hc8 : vm_cats rest ≤ 8) (hw : Cond.methodLink "BoardLettersLaw" idx (vm_mn g) ∈ vm_W) (hd : decode K.2.1 pc = .ok (.invokevirtual idx, 3)) (h : lNn g o as S P) (kk : ∀ z S', P z S' → lG K (pc + 3) ls (vm_i z :: rest) S' Qp) : lG K pc ls ((as.map vm_i).reverse ++ vm_r o :: rest) S Qp := by
  obtain ⟨m, hm, hC⟩ := h
  refine lg_cls g as hg hc8 hw hd hm (vm_C_mono hC (fun r m' h => ?_))
  obtain ⟨z, rfl, hP⟩ := h
  exact kk z _ hP
theorem lg_Nf {o : Nat} {P : UInt32 → lwS → Prop} (g : Nat) (as : List Int) (hg : lCls g as.length = true) (hc8 : vm_cats rest ≤ 8) (hw : Cond.methodLink "BoardLettersLaw" idx (vm_mn g) ∈ vm_W) (hd : decode K.2.1 pc = .ok (.invokevirtual idx, 3)) (h : lNf g o as S P) (kk : ∀ z S', P z S' → lG K (pc + 3) ls (vm_f z :: rest) S' Qp) : lG K pc ls ((as.map vm_i).reverse ++ vm_r o :: rest) S Qp := by
  obtain ⟨m, hm, hC⟩ := h
  refine lg_cls g as hg hc8 hw hd hm (vm_C_mono hC (fun r m' h => ?_))
  obtain ⟨z, rfl, hP⟩ := h
  exact kk z _ hP
theorem lg_Nd {o : Nat} {P : UInt64 → lwS → Prop} (g : Nat) (as : List Int) (hg : lCls g as.length = true) (hc8 : vm_cats rest ≤ 8) (hw : Cond.methodLink "BoardLettersLaw" idx (vm_mn g) ∈ vm_W) (hd : decode K.2.1 pc = .ok (.invokevirtual idx, 3)) (h : lNd g o as S P) (kk : ∀ z S', P z S' → lG K (pc + 3) ls (vm_d z :: rest) S' Qp) : lG K pc ls ((as.map vm_i).reverse ++ vm_r o :: rest) S Qp := by
  obtain ⟨m, hm, hC⟩ := h
  refine lg_cls g as hg hc8 hw hd hm (vm_C_mono hC (fun r m' h => ?_))
  obtain ⟨z, rfl, hP⟩ := h
  exact kk z _ hP
theorem lg_Ci {K2 : lwK} {n : Nat} {P : Int → lwS → Prop} (as : List vm_V) (hok : lOK K2 n) (hna : as.length = n) (hlev : K2.2.2.2.2.1 < K.2.2.2.2.1) (hw : Cond.methodLink "BoardLettersLaw" idx K2.1 ∈ vm_W) (hd : decode K.2.1 pc = .ok (.invokestatic idx, 3)) (hc8 : vm_cats rest ≤ 8) (hea : (vm_ea as).length ≤ K2.2.2.1) (h : lCi K2 as S P) (kk : ∀ z S', P z S' → lG K (pc + 3) ls (vm_i z :: rest) S' Qp) : lG K pc ls (as.reverse ++ rest) S Qp := by
  obtain ⟨cB, zB, hb, hG⟩ := h
  refine lg_call cB zB as hok hna hlev hw hd hc8 hb hea (hG.mono (fun r S' hP => ?_))
  obtain ⟨z, rfl, hP⟩ := hP
  exact kk z _ hP
theorem lg_Cr {K2 : lwK} {n : Nat} {P : Nat → lwS → Prop} (as : List vm_V) (hok : lOK K2 n) (hna : as.length = n) (hlev : K2.2.2.2.2.1 < K.2.2.2.2.1) (hw : Cond.methodLink "BoardLettersLaw" idx K2.1 ∈ vm_W) (hd : decode K.2.1 pc = .ok (.invokestatic idx, 3)) (hc8 : vm_cats rest ≤ 8) (hea : (vm_ea as).length ≤ K2.2.2.1) (h : lCr K2 as S P) (kk : ∀ z S', P z S' → lG K (pc + 3) ls (vm_r z :: rest) S' Qp) : lG K pc ls (as.reverse ++ rest) S Qp := by
  obtain ⟨cB, zB, hb, hG⟩ := h
  refine lg_call cB zB as hok hna hlev hw hd hc8 hb hea (hG.mono (fun r S' hP => ?_))
  obtain ⟨z, rfl, hP⟩ := hP
  exact kk z _ hP
theorem lg_Cv {K2 : lwK} {n : Nat} {P : lwS → Prop} (as : List vm_V) (hok : lOK K2 n) (hna : as.length = n) (hlev : K2.2.2.2.2.1 < K.2.2.2.2.1) (hw : Cond.methodLink "BoardLettersLaw" idx K2.1 ∈ vm_W) (hd : decode K.2.1 pc = .ok (.invokestatic idx, 3)) (hc8 : vm_cats rest ≤ 8) (hea : (vm_ea as).length ≤ K2.2.2.1) (h : lCv K2 as S P) (kk : ∀ S', P S' → lG K (pc + 3) ls (rest) S' Qp) : lG K pc ls (as.reverse ++ rest) S Qp := by
  obtain ⟨cB, zB, hb, hG⟩ := h
  refine lg_call cB zB as hok hna hlev hw hd hc8 hb hea (hG.mono (fun r S' hP => ?_))
  obtain ⟨rfl, hP⟩ := hP
  exact kk _ hP
theorem lg_Ac {b : Nat} {z : Int} {P : lwS → Prop} (hw : Cond.methodLink "BoardLettersLaw" idx ⟨"java/lang/StringBuilder", "append", "(C)Ljava/lang/StringBuilder;"⟩ ∈ vm_W) (hd : decode K.2.1 pc = .ok (.invokevirtual idx, 3)) (hc8 : vm_cats rest ≤ 8) (h : lAc b z S P) (kk : ∀ S', P S' → lG K (pc + 3) ls (vm_r b :: rest) S' Qp) : lG K pc ls (vm_i z :: vm_r b :: rest) S Qp := by
  obtain ⟨hz, l, c, ⟨h1, h2, h3, h4, h5⟩, hP⟩ := h
  exact lg_sbC hw hd hc8 h1 h2 hz h3 ⟨h4, h5⟩ (kk _ hP)
theorem lg_Ai {b : Nat} {z : Int} {P : lwS → Prop} (hw : Cond.methodLink "BoardLettersLaw" idx ⟨"java/lang/StringBuilder", "append", "(I)Ljava/lang/StringBuilder;"⟩ ∈ vm_W) (hd : decode K.2.1 pc = .ok (.invokevirtual idx, 3)) (hc8 : vm_cats rest ≤ 8) (h : lAi b z S P) (kk : ∀ S', P S' → lG K (pc + 3) ls (vm_r b :: rest) S' Qp) : lG K pc ls (vm_i z :: vm_r b :: rest) S Qp := by
  obtain ⟨hz, l, c, ⟨h1, h2, h3, h4, h5⟩, hP⟩ := h
  rw [lDec_len] at h3 h4 h5 hP
  exact lg_sbI hw hd hc8 h1 h2 hz h3 ⟨h4, h5⟩ (kk _ hP)
theorem lg_As {b r : Nat} {P : lwS → Prop} (hw : Cond.methodLink "BoardLettersLaw" idx ⟨"java/lang/StringBuilder", "append", "(Ljava/lang/String;)Ljava/lang/StringBuilder;"⟩ ∈ vm_W) (hd : decode K.2.1 pc = .ok (.invokevirtual idx, 3)) (hc8 : vm_cats rest ≤ 8) (h : lAs b r S P) (kk : ∀ S', P S' → lG K (pc + 3) ls (vm_r b :: rest) S' Qp) : lG K pc ls (vm_r r :: vm_r b :: rest) S Qp := by
  obtain ⟨w, hz, l, c, ⟨h1, h2, h3, h4, h5⟩, hP⟩ := h
  exact lg_sbS hw hd hc8 h1 h2 hz h3 ⟨h4, h5⟩ (kk _ hP)
theorem lg_To {b : Nat} {P : Nat → lwS → Prop} (hw : Cond.methodLink "BoardLettersLaw" idx ⟨"java/lang/StringBuilder", "toString", "()Ljava/lang/String;"⟩ ∈ vm_W) (hd : decode K.2.1 pc = .ok (.invokevirtual idx, 3)) (hc8 : vm_cats rest ≤ 8) (h : lTo b S P) (kk : ∀ a S', P a S' → lG K (pc + 3) ls (vm_r a :: rest) S' Qp) : lG K pc ls (vm_r b :: rest) S Qp := by
  obtain ⟨l, c, ⟨h1, h2, h3, h4⟩, hP⟩ := h
  exact lg_toS hw hd hc8 h1 h2 ⟨h3, h4⟩ (fun a ha1 ha2 => kk a _ (hP a ha1 ha2))
theorem lg_Nb {P : Nat → lwS → Prop} (hw : Cond.classLink "BoardLettersLaw" idx "java/lang/StringBuilder" ∈ vm_W) (hd : decode K.2.1 pc = .ok (.new idx, 3)) (h : lNb S P) (kk : ∀ a S', P a S' → lG K (pc + 3) ls (vm_r a :: rest) S' Qp) : lG K pc ls rest S Qp :=
  lg_newB hw hd h.1 (fun a ha1 ha2 => kk a _ (h.2 a ha1 ha2))
theorem lg_I0 {b : Nat} {P : lwS → Prop} (hw : Cond.methodLink "BoardLettersLaw" idx ⟨"java/lang/StringBuilder", "<init>", "()V"⟩ ∈ vm_W) (hd : decode K.2.1 pc = .ok (.invokespecial idx, 3)) (hc8 : vm_cats rest ≤ 8) (h : lI0 b S P) (kk : ∀ S', P S' → lG K (pc + 3) ls rest S' Qp) : lG K pc ls (vm_r b :: rest) S Qp :=
  lg_initB hw hd hc8 h.1.1 h.1.2 (kk _ h.2)
theorem lg_Is {b r : Nat} {P : lwS → Prop} (hw : Cond.methodLink "BoardLettersLaw" idx ⟨"java/lang/StringBuilder", "<init>", "(Ljava/lang/String;)V"⟩ ∈ vm_W) (hd : decode K.2.1 pc = .ok (.invokespecial idx, 3)) (hc8 : vm_cats rest ≤ 8) (h : lIs b r S P) (kk : ∀ S', P S' → lG K (pc + 3) ls rest S' Qp) : lG K pc ls (vm_r r :: vm_r b :: rest) S Qp := by
  obtain ⟨w, h1, ⟨h2, h3, h4⟩, hP⟩ := h
  exact lg_initS hw hd hc8 h2 h1 h3 h4 (kk _ hP)
theorem lg_Eq {r1 r2 : Nat} {P : Prop} (hw : Cond.methodLink "BoardLettersLaw" idx ⟨"java/lang/String", "equals", "(Ljava/lang/Object;)Z"⟩ ∈ vm_W) (hd : decode K.2.1 pc = .ok (.invokevirtual idx, 3)) (hc8 : vm_cats rest ≤ 8) (h : lEq r1 r2 S P) (kk : P → lG K (pc + 3) ls (vm_i 1 :: rest) S Qp) : lG K pc ls (vm_r r2 :: vm_r r1 :: rest) S Qp := by
  obtain ⟨w, h1, h2, hP⟩ := h
  exact lg_sEq hw hd hc8 h1 h2 (kk hP)
theorem lg_Ln {r : Nat} {P : Int → Prop} (hw : Cond.methodLink "BoardLettersLaw" idx ⟨"java/lang/String", "length", "()I"⟩ ∈ vm_W) (hd : decode K.2.1 pc = .ok (.invokevirtual idx, 3)) (hc8 : vm_cats rest ≤ 8) (h : lLn r S P) (kk : ∀ z, P z → lG K (pc + 3) ls (vm_i z :: rest) S Qp) : lG K pc ls (vm_r r :: rest) S Qp := by
  obtain ⟨w, h1, hP⟩ := h
  exact lg_sLen hw hd hc8 h1 (kk _ hP)
theorem lg_Ch {r : Nat} {i : Int} {P : Int → Prop} (hw : Cond.methodLink "BoardLettersLaw" idx ⟨"java/lang/String", "charAt", "(I)C"⟩ ∈ vm_W) (hd : decode K.2.1 pc = .ok (.invokevirtual idx, 3)) (hc8 : vm_cats rest ≤ 8) (h : lCh r i S P) (kk : ∀ z, P z → lG K (pc + 3) ls (vm_i z :: rest) S Qp) : lG K pc ls (vm_i i :: vm_r r :: rest) S Qp := by
  obtain ⟨w, h1, h2, hP⟩ := h
  exact lg_sChr hw hd hc8 h1 h2 (kk _ hP)
theorem lg_Ld {a : Nat} {i : Int} {P : Int → Prop} (hd : decode K.2.1 pc = .ok (.iaload, 1)) (h : lLd a i S P) (kk : ∀ z, P z → lG K (pc + 1) ls (vm_i z :: rest) S Qp) : lG K pc ls (vm_i i :: vm_r a :: rest) S Qp := by
  obtain ⟨l, h1, h2, hP⟩ := h
  exact lg_iald hd h1 h2 (kk _ hP)
theorem lg_St {a : Nat} {i z : Int} {P : lwS → Prop} (hd : decode K.2.1 pc = .ok (.iastore, 1)) (h : lSt a i z S P) (kk : ∀ S', P S' → lG K (pc + 1) ls rest S' Qp) : lG K pc ls (vm_i z :: vm_i i :: vm_r a :: rest) S Qp := by
  obtain ⟨l, h1, h2, hP⟩ := h
  exact lg_iast hd h1 h2 (kk _ hP)
theorem lg_Ni {N : Nat} {P : Nat → lwS → Prop} (hd : decode K.2.1 pc = .ok (.newarray .int, 2)) (hN : N ≤ 1000) (h : lNi N S P) (kk : ∀ a S', P a S' → lG K (pc + 2) ls (vm_r a :: rest) S' Qp) : lG K pc ls (vm_i (N : Int) :: rest) S Qp :=
  lg_newI hd hN h.1 (fun a ha1 ha2 => kk a _ (h.2 a ha1 ha2))
theorem lg_Nx {idx2 : Nat} {P : Nat → lwS → Prop} (h3 : 3 ≤ K.2.2.2.2.1) (hw : Cond.classLink "BoardLettersLaw" idx "BoardLetters" ∈ vm_W) (hw2 : Cond.methodLink "BoardLettersLaw" idx2 (vm_mn 100) ∈ vm_W) (hd : decode K.2.1 pc = .ok (.new idx, 3)) (hd2 : decode K.2.1 (pc + 3) = .ok (.dup, 1)) (hd3 : decode K.2.1 (pc + 4) = .ok (.invokespecial idx2, 3)) (hc8 : vm_cats rest + 1 ≤ 8) (h : lNx S P) (kk : ∀ a S', P a S' → lG K (pc + 7) ls (vm_r a :: rest) S' Qp) : lG K pc ls rest S Qp :=
  lg_newX h3 hw hw2 hd hd2 hd3 hc8 h.1 (fun a ha1 ha2 => kk a _ (h.2 a ha1 ha2))
theorem lsw_in {dd : Nat} {x : Int} : ∀ {qs : List (Int × Nat)}, (∃ q ∈ qs, x = q.1 ∧ vm_sw dd x qs = q.2) ∨ ((∀ q ∈ qs, x ≠ q.1) ∧ vm_sw dd x qs = dd)
  | [] => Or.inr ⟨(fun q h => by cases h), rfl⟩
  | q :: r => by
    unfold vm_sw
    by_cases h : x = q.1
    · rw [decide_eq_true h]
      exact Or.inl ⟨q, List.mem_cons_self, h, rfl⟩
    · rw [decide_eq_false h]
      rcases lsw_in (dd := dd) (x := x) (qs := r) with ⟨q2, h1, h2, h3⟩ | ⟨h1, h2⟩
      · exact Or.inl ⟨q2, List.mem_cons_of_mem _ h1, h2, h3⟩
      · refine Or.inr ⟨fun q2 h3 => ?_, h2⟩
        rcases List.mem_cons.mp h3 with h4 | h4
        · rw [h4]; exact h
        · exact h1 q2 h4
theorem lg_sw {dd len : Nat} {d1 lo hi : Int} {os : Array Int} {qs : List (Int × Nat)} {x : Int} (hd : decode K.2.1 pc = .ok (.tableswitch d1 lo hi os, len)) (h1 : (pc : Int) + d1 = (dd : Int)) (h2 : vm_swok pc lo 0 os.toList qs = true) (h3 : hi = lo + (qs.length : Int) - 1) (kk : (∀ q ∈ qs, x = q.1 → lG K q.2 ls rest S Qp) ∧ ((∀ q ∈ qs, x ≠ q.1) → lG K dd ls rest S Qp)) : lG K pc ls (vm_i x :: rest) S Qp := by
  refine lg_tbl hd h1 h2 h3 ?_
  rcases lsw_in (dd := dd) (x := x) (qs := qs) with ⟨q, g1, g2, g3⟩ | ⟨g1, g2⟩
  · rw [g3]; exact kk.1 q g1 g2
  · rw [g2]; exact kk.2 g1
end LNO
