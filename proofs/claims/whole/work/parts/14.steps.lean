section
variable {l : Launch} {b0 sc L : Nat} {xs : Nat → Int32} {H0 : Heap} {D : va_G} {dA : Nat → ClassId} {d mi pc nx a b : Nat} {cv : Int32} {tl : List Nat} {al : List (Option Value)} {st : List Value} {w : Bool} {σ : jm_S} {cf' : jm_Cf} {q : Prop} {r : jm_Rs}

theorem jx_iconst {n : Int} (hd : decode (jt_by mi) pc = .ok (.iconst n, nx - pc)) (hg : jm_gi mi pc nx a b cv tl (.iconst n) = true) (h : jm_ex d mi al st w σ nx a b cv tl (.iconst n) = some (cf', q)) (hq : q) (hP : jm_P l b0 sc L xs H0 D dA cf' r) : jm_PP l b0 sc L xs H0 D dA d mi pc al st w σ r.1 r.2.1 r.2.2 := by
  simp only [jm_gi, Bool.and_eq_true, beq_iff_eq, decide_eq_true_eq] at hg
  simp only [jm_ex] at h
  obtain ⟨rfl, hg⟩ := hg
  rw [Nat.add_sub_cancel_left] at hd
  cases h
  exact jm_go hP fun p e R s m args below meth c H locs cells slots Q ls hT hlv hwd hS k => lv_iconst hT.1 hT.2.1 hd hg (k ls hlv)
theorem jx_bipush {n : Int} (hd : decode (jt_by mi) pc = .ok (.bipush n, nx - pc)) (hg : jm_gi mi pc nx a b cv tl (.bipush n) = true) (h : jm_ex d mi al st w σ nx a b cv tl (.bipush n) = some (cf', q)) (hq : q) (hP : jm_P l b0 sc L xs H0 D dA cf' r) : jm_PP l b0 sc L xs H0 D dA d mi pc al st w σ r.1 r.2.1 r.2.2 := by
  simp only [jm_gi, Bool.and_eq_true, beq_iff_eq, decide_eq_true_eq] at hg
  simp only [jm_ex] at h
  obtain ⟨rfl, hg⟩ := hg
  rw [Nat.add_sub_cancel_left] at hd
  cases h
  exact jm_go hP fun p e R s m args below meth c H locs cells slots Q ls hT hlv hwd hS k => lv_bipush hT.1 hT.2.1 hd hg (k ls hlv)
theorem jx_sipush {n : Int} (hd : decode (jt_by mi) pc = .ok (.sipush n, nx - pc)) (hg : jm_gi mi pc nx a b cv tl (.sipush n) = true) (h : jm_ex d mi al st w σ nx a b cv tl (.sipush n) = some (cf', q)) (hq : q) (hP : jm_P l b0 sc L xs H0 D dA cf' r) : jm_PP l b0 sc L xs H0 D dA d mi pc al st w σ r.1 r.2.1 r.2.2 := by
  simp only [jm_gi, Bool.and_eq_true, beq_iff_eq, decide_eq_true_eq] at hg
  simp only [jm_ex] at h
  obtain ⟨rfl, hg⟩ := hg
  rw [Nat.add_sub_cancel_left] at hd
  cases h
  exact jm_go hP fun p e R s m args below meth c H locs cells slots Q ls hT hlv hwd hS k => lv_sipush hT.1 hT.2.1 hd hg (k ls hlv)
theorem jx_lconst {n : Fin 2} (hd : decode (jt_by mi) pc = .ok (.lconst n, nx - pc)) (hg : jm_gi mi pc nx a b cv tl (.lconst n) = true) (h : jm_ex d mi al st w σ nx a b cv tl (.lconst n) = some (cf', q)) (hq : q) (hP : jm_P l b0 sc L xs H0 D dA cf' r) : jm_PP l b0 sc L xs H0 D dA d mi pc al st w σ r.1 r.2.1 r.2.2 := by
  simp only [jm_gi, Bool.and_eq_true, beq_iff_eq, decide_eq_true_eq] at hg
  simp only [jm_ex] at h
  subst hg
  rw [Nat.add_sub_cancel_left] at hd
  cases h
  exact jm_go hP fun p e R s m args below meth c H locs cells slots Q ls hT hlv hwd hS k => lv_lconst hT.1 hT.2.1 hd rfl (k ls hlv)
theorem jx_null (hd : decode (jt_by mi) pc = .ok (.aconst_null, nx - pc)) (hg : jm_gi mi pc nx a b cv tl (.aconst_null) = true) (h : jm_ex d mi al st w σ nx a b cv tl (.aconst_null) = some (cf', q)) (hq : q) (hP : jm_P l b0 sc L xs H0 D dA cf' r) : jm_PP l b0 sc L xs H0 D dA d mi pc al st w σ r.1 r.2.1 r.2.2 := by
  simp only [jm_gi, Bool.and_eq_true, beq_iff_eq, decide_eq_true_eq] at hg
  simp only [jm_ex] at h
  subst hg
  rw [Nat.add_sub_cancel_left] at hd
  cases h
  exact jm_go hP fun p e R s m args below meth c H locs cells slots Q ls hT hlv hwd hS k => lv_null hT.1 hT.2.1 hd (k ls hlv)
theorem jx_iload_n {k : Fin 4} (hd : decode (jt_by mi) pc = .ok (.iload_n k, nx - pc)) (hg : jm_gi mi pc nx a b cv tl (.iload_n k) = true) (h : jm_ex d mi al st w σ nx a b cv tl (.iload_n k) = some (cf', q)) (hq : q) (hP : jm_P l b0 sc L xs H0 D dA cf' r) : jm_PP l b0 sc L xs H0 D dA d mi pc al st w σ r.1 r.2.1 r.2.2 := by
  simp only [jm_gi, Bool.and_eq_true, beq_iff_eq, decide_eq_true_eq] at hg
  simp only [jm_ex] at h
  obtain ⟨rfl, hg⟩ := hg
  rw [Nat.add_sub_cancel_left] at hd
  split at h
  · rename_i x hx
    cases h
    exact jm_go hP fun p e R s m args below meth c H locs cells slots Q ls hT hlv hwd hS kk => lv_iload_n hT.1 hT.2.1 hd hg (hlv.2.2.2 _ _ hx).2 (kk ls hlv)
  · cases h
theorem jx_iload {k : Nat} (hd : decode (jt_by mi) pc = .ok (.iload k, nx - pc)) (hg : jm_gi mi pc nx a b cv tl (.iload k) = true) (h : jm_ex d mi al st w σ nx a b cv tl (.iload k) = some (cf', q)) (hq : q) (hP : jm_P l b0 sc L xs H0 D dA cf' r) : jm_PP l b0 sc L xs H0 D dA d mi pc al st w σ r.1 r.2.1 r.2.2 := by
  simp only [jm_gi, Bool.and_eq_true, beq_iff_eq, decide_eq_true_eq] at hg
  simp only [jm_ex] at h
  obtain ⟨rfl, hg⟩ := hg
  subst hg
  rw [Nat.add_sub_cancel_left] at hd
  split at h
  · rename_i x hx
    cases h
    exact jm_go hP fun p e R s m args below meth c H locs cells slots Q ls hT hlv hwd hS kk => lv_iload hT.1 hT.2.1 hd (hlv.2.2.2 _ _ hx).2 (kk ls hlv)
  · cases h
theorem jx_aload_n {k : Fin 4} (hd : decode (jt_by mi) pc = .ok (.aload_n k, nx - pc)) (hg : jm_gi mi pc nx a b cv tl (.aload_n k) = true) (h : jm_ex d mi al st w σ nx a b cv tl (.aload_n k) = some (cf', q)) (hq : q) (hP : jm_P l b0 sc L xs H0 D dA cf' r) : jm_PP l b0 sc L xs H0 D dA d mi pc al st w σ r.1 r.2.1 r.2.2 := by
  simp only [jm_gi, Bool.and_eq_true, beq_iff_eq, decide_eq_true_eq] at hg
  simp only [jm_ex] at h
  obtain ⟨rfl, hg⟩ := hg
  rw [Nat.add_sub_cancel_left] at hd
  split at h
  · rename_i x hx
    cases h
    refine jm_go hP fun p e R s m args below meth c H locs cells slots Q ls hT hlv hwd hS kk => ?_
    have hl := (hlv.2.2.2 _ _ hx).2
    have hk := kk ls hlv
    by_cases h0 : x = 0
    · subst h0
      exact lv_aload_nN hT.1 hT.2.1 hd hg hl hk
    · rw [List.map_cons, jm_v_r h0] at hk
      rw [jm_v_r h0] at hl
      exact lv_aload_n hT.1 hT.2.1 hd hg hl hk
  · cases h
theorem jx_aload {k : Nat} (hd : decode (jt_by mi) pc = .ok (.aload k, nx - pc)) (hg : jm_gi mi pc nx a b cv tl (.aload k) = true) (h : jm_ex d mi al st w σ nx a b cv tl (.aload k) = some (cf', q)) (hq : q) (hP : jm_P l b0 sc L xs H0 D dA cf' r) : jm_PP l b0 sc L xs H0 D dA d mi pc al st w σ r.1 r.2.1 r.2.2 := by
  simp only [jm_gi, Bool.and_eq_true, beq_iff_eq, decide_eq_true_eq] at hg
  simp only [jm_ex] at h
  obtain ⟨rfl, hg⟩ := hg
  subst hg
  rw [Nat.add_sub_cancel_left] at hd
  split at h
  · rename_i x hx
    cases h
    refine jm_go hP fun p e R s m args below meth c H locs cells slots Q ls hT hlv hwd hS kk => ?_
    have hl := (hlv.2.2.2 _ _ hx).2
    have hk := kk ls hlv
    by_cases h0 : x = 0
    · subst h0
      exact lv_aloadN hT.1 hT.2.1 hd hl hk
    · rw [List.map_cons, jm_v_r h0] at hk
      rw [jm_v_r h0] at hl
      exact lv_aload hT.1 hT.2.1 hd hl hk
  · cases h
theorem jx_istore_n {k : Fin 4} (hd : decode (jt_by mi) pc = .ok (.istore_n k, nx - pc)) (hg : jm_gi mi pc nx a b cv tl (.istore_n k) = true) (h : jm_ex d mi al st w σ nx a b cv tl (.istore_n k) = some (cf', q)) (hq : q) (hP : jm_P l b0 sc L xs H0 D dA cf' r) : jm_PP l b0 sc L xs H0 D dA d mi pc al st w σ r.1 r.2.1 r.2.2 := by
  simp only [jm_gi, Bool.and_eq_true, beq_iff_eq, decide_eq_true_eq] at hg
  simp only [jm_ex] at h
  obtain ⟨⟨rfl, hg⟩, hl⟩ := hg
  rw [Nat.add_sub_cancel_left] at hd
  split at h
  · cases h
    exact jm_go hP fun p e R s m args below meth c H locs cells slots Q ls hT hlv hwd hS kk => lv_istore_n hT.1 hT.2.1 hd hg (jm_lv_has hlv) hl rfl (fun ls' h' => kk ls' (jm_lv_store hlv hl rfl h'))
  · cases h
theorem jx_istore {k : Nat} (hd : decode (jt_by mi) pc = .ok (.istore k, nx - pc)) (hg : jm_gi mi pc nx a b cv tl (.istore k) = true) (h : jm_ex d mi al st w σ nx a b cv tl (.istore k) = some (cf', q)) (hq : q) (hP : jm_P l b0 sc L xs H0 D dA cf' r) : jm_PP l b0 sc L xs H0 D dA d mi pc al st w σ r.1 r.2.1 r.2.2 := by
  simp only [jm_gi, Bool.and_eq_true, beq_iff_eq, decide_eq_true_eq] at hg
  simp only [jm_ex] at h
  obtain ⟨⟨rfl, hg⟩, hl⟩ := hg
  subst hg
  rw [Nat.add_sub_cancel_left] at hd
  split at h
  · cases h
    exact jm_go hP fun p e R s m args below meth c H locs cells slots Q ls hT hlv hwd hS kk => lv_istore hT.1 hT.2.1 hd (jm_lv_has hlv) hl rfl (fun ls' h' => kk ls' (jm_lv_store hlv hl rfl h'))
  · cases h
theorem jx_astore_n {k : Fin 4} (hd : decode (jt_by mi) pc = .ok (.astore_n k, nx - pc)) (hg : jm_gi mi pc nx a b cv tl (.astore_n k) = true) (h : jm_ex d mi al st w σ nx a b cv tl (.astore_n k) = some (cf', q)) (hq : q) (hP : jm_P l b0 sc L xs H0 D dA cf' r) : jm_PP l b0 sc L xs H0 D dA d mi pc al st w σ r.1 r.2.1 r.2.2 := by
  simp only [jm_gi, Bool.and_eq_true, beq_iff_eq, decide_eq_true_eq] at hg
  simp only [jm_ex] at h
  obtain ⟨⟨rfl, hg⟩, hl⟩ := hg
  rw [Nat.add_sub_cancel_left] at hd
  split at h
  · rename_i x r'
    cases h
    refine jm_go hP fun p e R s m args below meth c H locs cells slots Q ls hT hlv hwd hS kk => ?_
    by_cases h0 : x = 0
    · subst h0
      exact lv_astore_nN hT.1 hT.2.1 hd hg (jm_lv_has hlv) hl rfl (fun ls' h' => kk ls' (jm_lv_store hlv hl rfl h'))
    · rw [List.map_cons, jm_v_r h0]
      exact lv_astore_n hT.1 hT.2.1 hd hg (jm_lv_has hlv) hl rfl (fun ls' h' => kk ls' (jm_lv_store (v := .ref x) hlv hl rfl (by rw [jm_v_r h0]; exact h')))
  · cases h
theorem jx_astore {k : Nat} (hd : decode (jt_by mi) pc = .ok (.astore k, nx - pc)) (hg : jm_gi mi pc nx a b cv tl (.astore k) = true) (h : jm_ex d mi al st w σ nx a b cv tl (.astore k) = some (cf', q)) (hq : q) (hP : jm_P l b0 sc L xs H0 D dA cf' r) : jm_PP l b0 sc L xs H0 D dA d mi pc al st w σ r.1 r.2.1 r.2.2 := by
  simp only [jm_gi, Bool.and_eq_true, beq_iff_eq, decide_eq_true_eq] at hg
  simp only [jm_ex] at h
  obtain ⟨⟨rfl, hg⟩, hl⟩ := hg
  subst hg
  rw [Nat.add_sub_cancel_left] at hd
  split at h
  · rename_i x r'
    cases h
    refine jm_go hP fun p e R s m args below meth c H locs cells slots Q ls hT hlv hwd hS kk => ?_
    by_cases h0 : x = 0
    · subst h0
      exact lv_astoreN hT.1 hT.2.1 hd (jm_lv_has hlv) hl rfl (fun ls' h' => kk ls' (jm_lv_store hlv hl rfl h'))
    · rw [List.map_cons, jm_v_r h0]
      exact lv_astore hT.1 hT.2.1 hd (jm_lv_has hlv) hl rfl (fun ls' h' => kk ls' (jm_lv_store (v := .ref x) hlv hl rfl (by rw [jm_v_r h0]; exact h')))
  · cases h
theorem jx_iinc {k : Nat} {n : Int} (hd : decode (jt_by mi) pc = .ok (.iinc k n, nx - pc)) (hg : jm_gi mi pc nx a b cv tl (.iinc k n) = true) (h : jm_ex d mi al st w σ nx a b cv tl (.iinc k n) = some (cf', q)) (hq : q) (hP : jm_P l b0 sc L xs H0 D dA cf' r) : jm_PP l b0 sc L xs H0 D dA d mi pc al st w σ r.1 r.2.1 r.2.2 := by
  simp only [jm_gi, Bool.and_eq_true, beq_iff_eq, decide_eq_true_eq] at hg
  simp only [jm_ex] at h
  obtain ⟨⟨⟨rfl, rfl⟩, hv⟩, hl⟩ := hg
  rw [Nat.add_sub_cancel_left] at hd
  split at h
  · rename_i x hx
    cases h
    refine jm_go hP fun p e R s m args below meth c H locs cells slots Q ls hT hlv hwd hS kk => ?_
    obtain ⟨i0, hi0⟩ := List.getElem?_of_mem (jm_ll_mem.mpr ⟨k, .int x, hl, hx, rfl⟩)
    exact lv_iinc hT.1 hT.2.1 hd (jm_lv_has hlv) hi0 (by rw [hv]) hl rfl (fun ls' h' => kk ls' (jm_lv_store hlv hl rfl h'))
  · cases h
theorem jx_iadd (hd : decode (jt_by mi) pc = .ok (.iadd, nx - pc)) (hg : jm_gi mi pc nx a b cv tl (.iadd) = true) (h : jm_ex d mi al st w σ nx a b cv tl (.iadd) = some (cf', q)) (hq : q) (hP : jm_P l b0 sc L xs H0 D dA cf' r) : jm_PP l b0 sc L xs H0 D dA d mi pc al st w σ r.1 r.2.1 r.2.2 := by
  simp only [jm_gi, Bool.and_eq_true, beq_iff_eq, decide_eq_true_eq] at hg
  simp only [jm_ex] at h
  subst hg
  rw [Nat.add_sub_cancel_left] at hd
  split at h
  · cases h
    exact jm_go hP fun p e R s m args below meth c H locs cells slots Q ls hT hlv hwd hS k => lv_iadd hT.1 hT.2.1 hd (k ls hlv)
  · cases h
theorem jx_isub (hd : decode (jt_by mi) pc = .ok (.isub, nx - pc)) (hg : jm_gi mi pc nx a b cv tl (.isub) = true) (h : jm_ex d mi al st w σ nx a b cv tl (.isub) = some (cf', q)) (hq : q) (hP : jm_P l b0 sc L xs H0 D dA cf' r) : jm_PP l b0 sc L xs H0 D dA d mi pc al st w σ r.1 r.2.1 r.2.2 := by
  simp only [jm_gi, Bool.and_eq_true, beq_iff_eq, decide_eq_true_eq] at hg
  simp only [jm_ex] at h
  subst hg
  rw [Nat.add_sub_cancel_left] at hd
  split at h
  · cases h
    exact jm_go hP fun p e R s m args below meth c H locs cells slots Q ls hT hlv hwd hS k => lv_isub hT.1 hT.2.1 hd (k ls hlv)
  · cases h
theorem jx_imul (hd : decode (jt_by mi) pc = .ok (.imul, nx - pc)) (hg : jm_gi mi pc nx a b cv tl (.imul) = true) (h : jm_ex d mi al st w σ nx a b cv tl (.imul) = some (cf', q)) (hq : q) (hP : jm_P l b0 sc L xs H0 D dA cf' r) : jm_PP l b0 sc L xs H0 D dA d mi pc al st w σ r.1 r.2.1 r.2.2 := by
  simp only [jm_gi, Bool.and_eq_true, beq_iff_eq, decide_eq_true_eq] at hg
  simp only [jm_ex] at h
  subst hg
  rw [Nat.add_sub_cancel_left] at hd
  split at h
  · cases h
    exact jm_go hP fun p e R s m args below meth c H locs cells slots Q ls hT hlv hwd hS k => lv_imul hT.1 hT.2.1 hd (k ls hlv)
  · cases h
theorem jx_iand (hd : decode (jt_by mi) pc = .ok (.iand, nx - pc)) (hg : jm_gi mi pc nx a b cv tl (.iand) = true) (h : jm_ex d mi al st w σ nx a b cv tl (.iand) = some (cf', q)) (hq : q) (hP : jm_P l b0 sc L xs H0 D dA cf' r) : jm_PP l b0 sc L xs H0 D dA d mi pc al st w σ r.1 r.2.1 r.2.2 := by
  simp only [jm_gi, Bool.and_eq_true, beq_iff_eq, decide_eq_true_eq] at hg
  simp only [jm_ex] at h
  subst hg
  rw [Nat.add_sub_cancel_left] at hd
  split at h
  · cases h
    exact jm_go hP fun p e R s m args below meth c H locs cells slots Q ls hT hlv hwd hS k => lv_iand hT.1 hT.2.1 hd (k ls hlv)
  · cases h
theorem jx_ior (hd : decode (jt_by mi) pc = .ok (.ior, nx - pc)) (hg : jm_gi mi pc nx a b cv tl (.ior) = true) (h : jm_ex d mi al st w σ nx a b cv tl (.ior) = some (cf', q)) (hq : q) (hP : jm_P l b0 sc L xs H0 D dA cf' r) : jm_PP l b0 sc L xs H0 D dA d mi pc al st w σ r.1 r.2.1 r.2.2 := by
  simp only [jm_gi, Bool.and_eq_true, beq_iff_eq, decide_eq_true_eq] at hg
  simp only [jm_ex] at h
  subst hg
  rw [Nat.add_sub_cancel_left] at hd
  split at h
  · cases h
    exact jm_go hP fun p e R s m args below meth c H locs cells slots Q ls hT hlv hwd hS k => lv_ior hT.1 hT.2.1 hd (k ls hlv)
  · cases h
theorem jx_ixor (hd : decode (jt_by mi) pc = .ok (.ixor, nx - pc)) (hg : jm_gi mi pc nx a b cv tl (.ixor) = true) (h : jm_ex d mi al st w σ nx a b cv tl (.ixor) = some (cf', q)) (hq : q) (hP : jm_P l b0 sc L xs H0 D dA cf' r) : jm_PP l b0 sc L xs H0 D dA d mi pc al st w σ r.1 r.2.1 r.2.2 := by
  simp only [jm_gi, Bool.and_eq_true, beq_iff_eq, decide_eq_true_eq] at hg
  simp only [jm_ex] at h
  subst hg
  rw [Nat.add_sub_cancel_left] at hd
  split at h
  · cases h
    exact jm_go hP fun p e R s m args below meth c H locs cells slots Q ls hT hlv hwd hS k => lv_ixor hT.1 hT.2.1 hd (k ls hlv)
  · cases h
theorem jx_ishl (hd : decode (jt_by mi) pc = .ok (.ishl, nx - pc)) (hg : jm_gi mi pc nx a b cv tl (.ishl) = true) (h : jm_ex d mi al st w σ nx a b cv tl (.ishl) = some (cf', q)) (hq : q) (hP : jm_P l b0 sc L xs H0 D dA cf' r) : jm_PP l b0 sc L xs H0 D dA d mi pc al st w σ r.1 r.2.1 r.2.2 := by
  simp only [jm_gi, Bool.and_eq_true, beq_iff_eq, decide_eq_true_eq] at hg
  simp only [jm_ex] at h
  subst hg
  rw [Nat.add_sub_cancel_left] at hd
  split at h
  · cases h
    exact jm_go hP fun p e R s m args below meth c H locs cells slots Q ls hT hlv hwd hS k => lv_ishl hT.1 hT.2.1 hd (k ls hlv)
  · cases h
theorem jx_idiv (hd : decode (jt_by mi) pc = .ok (.idiv, nx - pc)) (hg : jm_gi mi pc nx a b cv tl (.idiv) = true) (h : jm_ex d mi al st w σ nx a b cv tl (.idiv) = some (cf', q)) (hq : q) (hP : jm_P l b0 sc L xs H0 D dA cf' r) : jm_PP l b0 sc L xs H0 D dA d mi pc al st w σ r.1 r.2.1 r.2.2 := by
  simp only [jm_gi, Bool.and_eq_true, beq_iff_eq, decide_eq_true_eq] at hg
  simp only [jm_ex] at h
  subst hg
  rw [Nat.add_sub_cancel_left] at hd
  split at h
  · cases h
    exact jm_go hP fun p e R s m args below meth c H locs cells slots Q ls hT hlv hwd hS k => lv_idiv hT.1 hT.2.1 hd hq (k ls hlv)
  · cases h
theorem jx_irem (hd : decode (jt_by mi) pc = .ok (.irem, nx - pc)) (hg : jm_gi mi pc nx a b cv tl (.irem) = true) (h : jm_ex d mi al st w σ nx a b cv tl (.irem) = some (cf', q)) (hq : q) (hP : jm_P l b0 sc L xs H0 D dA cf' r) : jm_PP l b0 sc L xs H0 D dA d mi pc al st w σ r.1 r.2.1 r.2.2 := by
  simp only [jm_gi, Bool.and_eq_true, beq_iff_eq, decide_eq_true_eq] at hg
  simp only [jm_ex] at h
  subst hg
  rw [Nat.add_sub_cancel_left] at hd
  split at h
  · cases h
    exact jm_go hP fun p e R s m args below meth c H locs cells slots Q ls hT hlv hwd hS k => lv_irem hT.1 hT.2.1 hd hq (k ls hlv)
  · cases h
theorem jx_lcmp (hd : decode (jt_by mi) pc = .ok (.lcmp, nx - pc)) (hg : jm_gi mi pc nx a b cv tl (.lcmp) = true) (h : jm_ex d mi al st w σ nx a b cv tl (.lcmp) = some (cf', q)) (hq : q) (hP : jm_P l b0 sc L xs H0 D dA cf' r) : jm_PP l b0 sc L xs H0 D dA d mi pc al st w σ r.1 r.2.1 r.2.2 := by
  simp only [jm_gi, Bool.and_eq_true, beq_iff_eq, decide_eq_true_eq] at hg
  simp only [jm_ex] at h
  subst hg
  rw [Nat.add_sub_cancel_left] at hd
  split at h
  · cases h
    exact jm_go hP fun p e R s m args below meth c H locs cells slots Q ls hT hlv hwd hS k => W.lcmp hT.1 hT.2.1 hd (k ls hlv)
  · cases h
theorem jx_i2l (hd : decode (jt_by mi) pc = .ok (.i2l, nx - pc)) (hg : jm_gi mi pc nx a b cv tl (.i2l) = true) (h : jm_ex d mi al st w σ nx a b cv tl (.i2l) = some (cf', q)) (hq : q) (hP : jm_P l b0 sc L xs H0 D dA cf' r) : jm_PP l b0 sc L xs H0 D dA d mi pc al st w σ r.1 r.2.1 r.2.2 := by
  simp only [jm_gi, Bool.and_eq_true, beq_iff_eq, decide_eq_true_eq] at hg
  simp only [jm_ex] at h
  subst hg
  rw [Nat.add_sub_cancel_left] at hd
  split at h
  · cases h
    exact jm_go hP fun p e R s m args below meth c H locs cells slots Q ls hT hlv hwd hS k => lv_i2l hT.1 hT.2.1 hd rfl (k ls hlv)
  · cases h
theorem jx_dup (hd : decode (jt_by mi) pc = .ok (.dup, nx - pc)) (hg : jm_gi mi pc nx a b cv tl (.dup) = true) (h : jm_ex d mi al st w σ nx a b cv tl (.dup) = some (cf', q)) (hq : q) (hP : jm_P l b0 sc L xs H0 D dA cf' r) : jm_PP l b0 sc L xs H0 D dA d mi pc al st w σ r.1 r.2.1 r.2.2 := by
  simp only [jm_gi, Bool.and_eq_true, beq_iff_eq, decide_eq_true_eq] at hg
  simp only [jm_ex] at h
  subst hg
  rw [Nat.add_sub_cancel_left] at hd
  split at h
  · cases h
    exact jm_go hP fun p e R s m args below meth c H locs cells slots Q ls hT hlv hwd hS k => lv_dup hT.1 hT.2.1 hd ((jm_v_cat _ _ _).trans hq) (k ls hlv)
  · cases h
theorem jx_pop (hd : decode (jt_by mi) pc = .ok (.pop, nx - pc)) (hg : jm_gi mi pc nx a b cv tl (.pop) = true) (h : jm_ex d mi al st w σ nx a b cv tl (.pop) = some (cf', q)) (hq : q) (hP : jm_P l b0 sc L xs H0 D dA cf' r) : jm_PP l b0 sc L xs H0 D dA d mi pc al st w σ r.1 r.2.1 r.2.2 := by
  simp only [jm_gi, Bool.and_eq_true, beq_iff_eq, decide_eq_true_eq] at hg
  simp only [jm_ex] at h
  subst hg
  rw [Nat.add_sub_cancel_left] at hd
  split at h
  · cases h
    exact jm_go hP fun p e R s m args below meth c H locs cells slots Q ls hT hlv hwd hS k => lv_pop hT.1 hT.2.1 hd ((jm_v_cat _ _ _).trans hq) (k ls hlv)
  · cases h
theorem jx_dup2 (hd : decode (jt_by mi) pc = .ok (.dup2, nx - pc)) (hg : jm_gi mi pc nx a b cv tl (.dup2) = true) (h : jm_ex d mi al st w σ nx a b cv tl (.dup2) = some (cf', q)) (hq : q) (hP : jm_P l b0 sc L xs H0 D dA cf' r) : jm_PP l b0 sc L xs H0 D dA d mi pc al st w σ r.1 r.2.1 r.2.2 := by
  simp only [jm_gi, Bool.and_eq_true, beq_iff_eq, decide_eq_true_eq] at hg
  simp only [jm_ex] at h
  subst hg
  rw [Nat.add_sub_cancel_left] at hd
  split at h
  · cases h
    exact jm_go hP fun p e R s m args below meth c H locs cells slots Q ls hT hlv hwd hS k => lv_dup2_11 hT.1 hT.2.1 hd ((jm_v_cat _ _ _).trans hq.1) ((jm_v_cat _ _ _).trans hq.2) (k ls hlv)
  · cases h
theorem jx_goto {off : Int} (hd : decode (jt_by mi) pc = .ok (.goto off, nx - pc)) (hg : jm_gi mi pc nx a b cv tl (.goto off) = true) (h : jm_ex d mi al st w σ nx a b cv tl (.goto off) = some (cf', q)) (hq : q) (hP : jm_P l b0 sc L xs H0 D dA cf' r) : jm_PP l b0 sc L xs H0 D dA d mi pc al st w σ r.1 r.2.1 r.2.2 := by
  simp only [jm_gi, Bool.and_eq_true, beq_iff_eq, decide_eq_true_eq] at hg
  simp only [jm_ex] at h
  obtain ⟨rfl, hg⟩ := hg
  rw [Nat.add_sub_cancel_left] at hd
  cases h
  exact jm_go hP fun p e R s m args below meth c H locs cells slots Q ls hT hlv hwd hS k => lv_goto hT.1 hT.2.1 hd hg (k ls hlv)
theorem jx_ifCond_eq {off : Int} (hd : decode (jt_by mi) pc = .ok (.ifCond .eq off, nx - pc)) (hg : jm_gi mi pc nx a b cv tl (.ifCond .eq off) = true) (h : jm_ex d mi al st w σ nx a b cv tl (.ifCond .eq off) = some (cf', q)) (hq : q) (hP : jm_P l b0 sc L xs H0 D dA cf' r) : jm_PP l b0 sc L xs H0 D dA d mi pc al st w σ r.1 r.2.1 r.2.2 := by
  simp only [jm_gi, Bool.and_eq_true, beq_iff_eq, decide_eq_true_eq] at hg
  simp only [jm_ex] at h
  obtain ⟨rfl, hg⟩ := hg
  rw [Nat.add_sub_cancel_left] at hd
  split at h
  · cases h
    exact jm_go hP fun p e R s m args below meth c H locs cells slots Q ls hT hlv hwd hS k => lv_if_eq hT.1 hT.2.1 hd hg (fun h0 => by have := k ls hlv; rw [if_pos h0] at this; exact this) (fun h0 => by have := k ls hlv; rw [if_neg h0] at this; exact this)
  · cases h
theorem jx_ifCond_ne {off : Int} (hd : decode (jt_by mi) pc = .ok (.ifCond .ne off, nx - pc)) (hg : jm_gi mi pc nx a b cv tl (.ifCond .ne off) = true) (h : jm_ex d mi al st w σ nx a b cv tl (.ifCond .ne off) = some (cf', q)) (hq : q) (hP : jm_P l b0 sc L xs H0 D dA cf' r) : jm_PP l b0 sc L xs H0 D dA d mi pc al st w σ r.1 r.2.1 r.2.2 := by
  simp only [jm_gi, Bool.and_eq_true, beq_iff_eq, decide_eq_true_eq] at hg
  simp only [jm_ex] at h
  obtain ⟨rfl, hg⟩ := hg
  rw [Nat.add_sub_cancel_left] at hd
  split at h
  · cases h
    exact jm_go hP fun p e R s m args below meth c H locs cells slots Q ls hT hlv hwd hS k => lv_if_ne hT.1 hT.2.1 hd hg (fun h0 => by have := k ls hlv; rw [if_neg h0] at this; exact this) (fun h0 => by have := k ls hlv; rw [if_pos h0] at this; exact this)
  · cases h
theorem jx_ifCond_lt {off : Int} (hd : decode (jt_by mi) pc = .ok (.ifCond .lt off, nx - pc)) (hg : jm_gi mi pc nx a b cv tl (.ifCond .lt off) = true) (h : jm_ex d mi al st w σ nx a b cv tl (.ifCond .lt off) = some (cf', q)) (hq : q) (hP : jm_P l b0 sc L xs H0 D dA cf' r) : jm_PP l b0 sc L xs H0 D dA d mi pc al st w σ r.1 r.2.1 r.2.2 := by
  simp only [jm_gi, Bool.and_eq_true, beq_iff_eq, decide_eq_true_eq] at hg
  simp only [jm_ex] at h
  obtain ⟨rfl, hg⟩ := hg
  rw [Nat.add_sub_cancel_left] at hd
  split at h
  · cases h
    exact jm_go hP fun p e R s m args below meth c H locs cells slots Q ls hT hlv hwd hS k => lv_if_lt hT.1 hT.2.1 hd hg (fun h0 => by have := k ls hlv; rw [if_pos h0] at this; exact this) (fun h0 => by have := k ls hlv; rw [if_neg h0] at this; exact this)
  · cases h
theorem jx_ifCond_ge {off : Int} (hd : decode (jt_by mi) pc = .ok (.ifCond .ge off, nx - pc)) (hg : jm_gi mi pc nx a b cv tl (.ifCond .ge off) = true) (h : jm_ex d mi al st w σ nx a b cv tl (.ifCond .ge off) = some (cf', q)) (hq : q) (hP : jm_P l b0 sc L xs H0 D dA cf' r) : jm_PP l b0 sc L xs H0 D dA d mi pc al st w σ r.1 r.2.1 r.2.2 := by
  simp only [jm_gi, Bool.and_eq_true, beq_iff_eq, decide_eq_true_eq] at hg
  simp only [jm_ex] at h
  obtain ⟨rfl, hg⟩ := hg
  rw [Nat.add_sub_cancel_left] at hd
  split at h
  · cases h
    exact jm_go hP fun p e R s m args below meth c H locs cells slots Q ls hT hlv hwd hS k => lv_if_ge hT.1 hT.2.1 hd hg (fun h0 => by have := k ls hlv; rw [if_pos h0] at this; exact this) (fun h0 => by have := k ls hlv; rw [if_neg h0] at this; exact this)
  · cases h
theorem jx_ifCond_gt {off : Int} (hd : decode (jt_by mi) pc = .ok (.ifCond .gt off, nx - pc)) (hg : jm_gi mi pc nx a b cv tl (.ifCond .gt off) = true) (h : jm_ex d mi al st w σ nx a b cv tl (.ifCond .gt off) = some (cf', q)) (hq : q) (hP : jm_P l b0 sc L xs H0 D dA cf' r) : jm_PP l b0 sc L xs H0 D dA d mi pc al st w σ r.1 r.2.1 r.2.2 := by
  simp only [jm_gi, Bool.and_eq_true, beq_iff_eq, decide_eq_true_eq] at hg
  simp only [jm_ex] at h
  obtain ⟨rfl, hg⟩ := hg
  rw [Nat.add_sub_cancel_left] at hd
  split at h
  · cases h
    exact jm_go hP fun p e R s m args below meth c H locs cells slots Q ls hT hlv hwd hS k => lv_if_gt hT.1 hT.2.1 hd hg (fun h0 => by have := k ls hlv; rw [if_pos h0] at this; exact this) (fun h0 => by have := k ls hlv; rw [if_neg h0] at this; exact this)
  · cases h
theorem jx_ifCond_le {off : Int} (hd : decode (jt_by mi) pc = .ok (.ifCond .le off, nx - pc)) (hg : jm_gi mi pc nx a b cv tl (.ifCond .le off) = true) (h : jm_ex d mi al st w σ nx a b cv tl (.ifCond .le off) = some (cf', q)) (hq : q) (hP : jm_P l b0 sc L xs H0 D dA cf' r) : jm_PP l b0 sc L xs H0 D dA d mi pc al st w σ r.1 r.2.1 r.2.2 := by
  simp only [jm_gi, Bool.and_eq_true, beq_iff_eq, decide_eq_true_eq] at hg
  simp only [jm_ex] at h
  obtain ⟨rfl, hg⟩ := hg
  rw [Nat.add_sub_cancel_left] at hd
  split at h
  · cases h
    exact jm_go hP fun p e R s m args below meth c H locs cells slots Q ls hT hlv hwd hS k => lv_if_le hT.1 hT.2.1 hd hg (fun h0 => by have := k ls hlv; rw [if_pos h0] at this; exact this) (fun h0 => by have := k ls hlv; rw [if_neg h0] at this; exact this)
  · cases h
theorem jx_if_icmp_eq {off : Int} (hd : decode (jt_by mi) pc = .ok (.if_icmp .eq off, nx - pc)) (hg : jm_gi mi pc nx a b cv tl (.if_icmp .eq off) = true) (h : jm_ex d mi al st w σ nx a b cv tl (.if_icmp .eq off) = some (cf', q)) (hq : q) (hP : jm_P l b0 sc L xs H0 D dA cf' r) : jm_PP l b0 sc L xs H0 D dA d mi pc al st w σ r.1 r.2.1 r.2.2 := by
  simp only [jm_gi, Bool.and_eq_true, beq_iff_eq, decide_eq_true_eq] at hg
  simp only [jm_ex] at h
  obtain ⟨rfl, hg⟩ := hg
  rw [Nat.add_sub_cancel_left] at hd
  split at h
  · cases h
    exact jm_go hP fun p e R s m args below meth c H locs cells slots Q ls hT hlv hwd hS k => lv_icmp_eq hT.1 hT.2.1 hd hg (fun h0 => by have := k ls hlv; rw [if_pos h0] at this; exact this) (fun h0 => by have := k ls hlv; rw [if_neg h0] at this; exact this)
  · cases h
theorem jx_if_icmp_ne {off : Int} (hd : decode (jt_by mi) pc = .ok (.if_icmp .ne off, nx - pc)) (hg : jm_gi mi pc nx a b cv tl (.if_icmp .ne off) = true) (h : jm_ex d mi al st w σ nx a b cv tl (.if_icmp .ne off) = some (cf', q)) (hq : q) (hP : jm_P l b0 sc L xs H0 D dA cf' r) : jm_PP l b0 sc L xs H0 D dA d mi pc al st w σ r.1 r.2.1 r.2.2 := by
  simp only [jm_gi, Bool.and_eq_true, beq_iff_eq, decide_eq_true_eq] at hg
  simp only [jm_ex] at h
  obtain ⟨rfl, hg⟩ := hg
  rw [Nat.add_sub_cancel_left] at hd
  split at h
  · cases h
    exact jm_go hP fun p e R s m args below meth c H locs cells slots Q ls hT hlv hwd hS k => lv_icmp_ne hT.1 hT.2.1 hd hg (fun h0 => by have := k ls hlv; rw [if_neg h0] at this; exact this) (fun h0 => by have := k ls hlv; rw [if_pos h0] at this; exact this)
  · cases h
theorem jx_if_icmp_lt {off : Int} (hd : decode (jt_by mi) pc = .ok (.if_icmp .lt off, nx - pc)) (hg : jm_gi mi pc nx a b cv tl (.if_icmp .lt off) = true) (h : jm_ex d mi al st w σ nx a b cv tl (.if_icmp .lt off) = some (cf', q)) (hq : q) (hP : jm_P l b0 sc L xs H0 D dA cf' r) : jm_PP l b0 sc L xs H0 D dA d mi pc al st w σ r.1 r.2.1 r.2.2 := by
  simp only [jm_gi, Bool.and_eq_true, beq_iff_eq, decide_eq_true_eq] at hg
  simp only [jm_ex] at h
  obtain ⟨rfl, hg⟩ := hg
  rw [Nat.add_sub_cancel_left] at hd
  split at h
  · cases h
    exact jm_go hP fun p e R s m args below meth c H locs cells slots Q ls hT hlv hwd hS k => lv_icmp_lt hT.1 hT.2.1 hd hg (fun h0 => by have := k ls hlv; rw [if_pos h0] at this; exact this) (fun h0 => by have := k ls hlv; rw [if_neg h0] at this; exact this)
  · cases h
theorem jx_if_icmp_ge {off : Int} (hd : decode (jt_by mi) pc = .ok (.if_icmp .ge off, nx - pc)) (hg : jm_gi mi pc nx a b cv tl (.if_icmp .ge off) = true) (h : jm_ex d mi al st w σ nx a b cv tl (.if_icmp .ge off) = some (cf', q)) (hq : q) (hP : jm_P l b0 sc L xs H0 D dA cf' r) : jm_PP l b0 sc L xs H0 D dA d mi pc al st w σ r.1 r.2.1 r.2.2 := by
  simp only [jm_gi, Bool.and_eq_true, beq_iff_eq, decide_eq_true_eq] at hg
  simp only [jm_ex] at h
  obtain ⟨rfl, hg⟩ := hg
  rw [Nat.add_sub_cancel_left] at hd
  split at h
  · cases h
    exact jm_go hP fun p e R s m args below meth c H locs cells slots Q ls hT hlv hwd hS k => lv_icmp_ge hT.1 hT.2.1 hd hg (fun h0 => by have := k ls hlv; rw [if_pos h0] at this; exact this) (fun h0 => by have := k ls hlv; rw [if_neg h0] at this; exact this)
  · cases h
theorem jx_if_icmp_gt {off : Int} (hd : decode (jt_by mi) pc = .ok (.if_icmp .gt off, nx - pc)) (hg : jm_gi mi pc nx a b cv tl (.if_icmp .gt off) = true) (h : jm_ex d mi al st w σ nx a b cv tl (.if_icmp .gt off) = some (cf', q)) (hq : q) (hP : jm_P l b0 sc L xs H0 D dA cf' r) : jm_PP l b0 sc L xs H0 D dA d mi pc al st w σ r.1 r.2.1 r.2.2 := by
  simp only [jm_gi, Bool.and_eq_true, beq_iff_eq, decide_eq_true_eq] at hg
  simp only [jm_ex] at h
  obtain ⟨rfl, hg⟩ := hg
  rw [Nat.add_sub_cancel_left] at hd
  split at h
  · cases h
    exact jm_go hP fun p e R s m args below meth c H locs cells slots Q ls hT hlv hwd hS k => lv_icmp_gt hT.1 hT.2.1 hd hg (fun h0 => by have := k ls hlv; rw [if_pos h0] at this; exact this) (fun h0 => by have := k ls hlv; rw [if_neg h0] at this; exact this)
  · cases h
theorem jx_if_icmp_le {off : Int} (hd : decode (jt_by mi) pc = .ok (.if_icmp .le off, nx - pc)) (hg : jm_gi mi pc nx a b cv tl (.if_icmp .le off) = true) (h : jm_ex d mi al st w σ nx a b cv tl (.if_icmp .le off) = some (cf', q)) (hq : q) (hP : jm_P l b0 sc L xs H0 D dA cf' r) : jm_PP l b0 sc L xs H0 D dA d mi pc al st w σ r.1 r.2.1 r.2.2 := by
  simp only [jm_gi, Bool.and_eq_true, beq_iff_eq, decide_eq_true_eq] at hg
  simp only [jm_ex] at h
  obtain ⟨rfl, hg⟩ := hg
  rw [Nat.add_sub_cancel_left] at hd
  split at h
  · cases h
    exact jm_go hP fun p e R s m args below meth c H locs cells slots Q ls hT hlv hwd hS k => lv_icmp_le hT.1 hT.2.1 hd hg (fun h0 => by have := k ls hlv; rw [if_pos h0] at this; exact this) (fun h0 => by have := k ls hlv; rw [if_neg h0] at this; exact this)
  · cases h
theorem jx_ifnull {off : Int} (hd : decode (jt_by mi) pc = .ok (.ifnull off, nx - pc)) (hg : jm_gi mi pc nx a b cv tl (.ifnull off) = true) (h : jm_ex d mi al st w σ nx a b cv tl (.ifnull off) = some (cf', q)) (hq : q) (hP : jm_P l b0 sc L xs H0 D dA cf' r) : jm_PP l b0 sc L xs H0 D dA d mi pc al st w σ r.1 r.2.1 r.2.2 := by
  simp only [jm_gi, Bool.and_eq_true, beq_iff_eq, decide_eq_true_eq] at hg
  simp only [jm_ex] at h
  obtain ⟨rfl, hg⟩ := hg
  rw [Nat.add_sub_cancel_left] at hd
  split at h
  · rename_i x r'
    cases h
    refine jm_go hP fun p e R s m args below meth c H locs cells slots Q ls hT hlv hwd hS k => ?_
    have hk := k ls hlv
    by_cases h0 : x = 0
    · subst h0
      rw [if_pos rfl] at hk
      exact lv_ifnullN hT.1 hT.2.1 hd hg hk
    · rw [if_neg h0] at hk
      rw [List.map_cons, jm_v_r h0]
      exact lv_ifnull hT.1 hT.2.1 hd hk
  · cases h
theorem jx_ifnonnull {off : Int} (hd : decode (jt_by mi) pc = .ok (.ifnonnull off, nx - pc)) (hg : jm_gi mi pc nx a b cv tl (.ifnonnull off) = true) (h : jm_ex d mi al st w σ nx a b cv tl (.ifnonnull off) = some (cf', q)) (hq : q) (hP : jm_P l b0 sc L xs H0 D dA cf' r) : jm_PP l b0 sc L xs H0 D dA d mi pc al st w σ r.1 r.2.1 r.2.2 := by
  simp only [jm_gi, Bool.and_eq_true, beq_iff_eq, decide_eq_true_eq] at hg
  simp only [jm_ex] at h
  obtain ⟨rfl, hg⟩ := hg
  rw [Nat.add_sub_cancel_left] at hd
  split at h
  · rename_i x r'
    cases h
    refine jm_go hP fun p e R s m args below meth c H locs cells slots Q ls hT hlv hwd hS k => ?_
    have hk := k ls hlv
    by_cases h0 : x = 0
    · subst h0
      rw [if_pos rfl] at hk
      exact lv_ifnonnullN hT.1 hT.2.1 hd hk
    · rw [if_neg h0] at hk
      rw [List.map_cons, jm_v_r h0]
      exact lv_ifnonnull hT.1 hT.2.1 hd hg hk
  · cases h
theorem jx_tableswitch {dflt lo hi : Int} {offs : Array Int} (hd : decode (jt_by mi) pc = .ok (.tableswitch dflt lo hi offs, nx - pc)) (hg : jm_gi mi pc nx a b cv tl (.tableswitch dflt lo hi offs) = true) (h : jm_ex d mi al st w σ nx a b cv tl (.tableswitch dflt lo hi offs) = some (cf', q)) (hq : q) (hP : jm_P l b0 sc L xs H0 D dA cf' r) : jm_PP l b0 sc L xs H0 D dA d mi pc al st w σ r.1 r.2.1 r.2.2 := by
  simp only [jm_gi, Bool.and_eq_true, beq_iff_eq, decide_eq_true_eq] at hg
  simp only [jm_ex] at h
  obtain ⟨⟨hg1, hg2⟩, hg3⟩ := hg
  split at h
  · rename_i x r'
    cases h
    refine jm_go hP fun p e R s m args below meth c H locs cells slots Q ls hT hlv hwd hS k => ?_
    have hk := k ls hlv
    by_cases h0 : x.toInt < lo ∨ hi < x.toInt
    · rw [if_pos h0] at hk
      exact lv_tableOut hT.1 hT.2.1 hd h0 hg1 hk
    · rw [if_neg h0] at hk
      have h1 : ¬ x.toInt < lo := fun z => h0 (Or.inl z)
      have h2 : ¬ hi < x.toInt := fun z => h0 (Or.inr z)
      have hlt : (x.toInt - lo).toNat < offs.toList.length := by rw [Array.length_toList]; omega
      have hlt2 : (x.toInt - lo).toNat < tl.length := by have := congrArg List.length hg3; rw [List.length_map, List.length_map] at this; omega
      obtain ⟨of, hof⟩ : ∃ of, offs.toList[(x.toInt - lo).toNat]? = some of := ⟨_, List.getElem?_eq_getElem hlt⟩
      obtain ⟨tg, htg⟩ : ∃ tg, tl[(x.toInt - lo).toNat]? = some tg := ⟨_, List.getElem?_eq_getElem hlt2⟩
      have he : (pc : Int) + of = (tg : Int) := by
        have := congrArg (fun z : List Int => z[(x.toInt - lo).toNat]?) hg3
        simp only [List.getElem?_map, hof, htg, Option.map_some] at this
        exact Option.some.inj this
      rw [List.getD_eq_getElem?_getD, htg] at hk
      exact lv_tableIn hT.1 hT.2.1 hd h1 h2 (by rw [← Array.getElem?_toList]; exact hof) he hk
  · cases h
end
