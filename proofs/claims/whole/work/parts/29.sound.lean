/-! every run of the small machine is one of the machine itself -/
section
variable {l : Launch} {b0 sc L : Nat} {xs : Nat → Int32} {H0 : Heap} {D : va_G} {dA : Nat → ClassId}
theorem jm_sem_step : ∀ (c c' : jm_Cf) (q : Prop) (r : jm_Rs), jm_step c = some (c', q) → q → jm_P l b0 sc L xs H0 D dA c' r → jm_P l b0 sc L xs H0 D dA c r := by
  rintro ⟨d, mi, pc, al, st, w, σ⟩ c' q r h hq hP
  simp only [jm_step] at h
  cases hrow : jm_at mi pc with
  | none => rw [hrow] at h; cases h
  | some row =>
    obtain ⟨ins, nx, a, b, cv, tl⟩ := row
    rw [hrow] at h
    obtain ⟨hd, hg⟩ := jt_good hrow
    replace h : jm_ex d mi al st w σ nx a b cv tl ins = some (c', q) := h
    show jm_PP l b0 sc L xs H0 D dA d mi pc al st w σ r.1 r.2.1 r.2.2
    cases ins with
    | iconst n => exact jx_iconst hd hg h hq hP
    | bipush n => exact jx_bipush hd hg h hq hP
    | sipush n => exact jx_sipush hd hg h hq hP
    | lconst n => exact jx_lconst hd hg h hq hP
    | aconst_null => exact jx_null hd hg h hq hP
    | iload_n k => exact jx_iload_n hd hg h hq hP
    | iload k => exact jx_iload hd hg h hq hP
    | aload_n k => exact jx_aload_n hd hg h hq hP
    | aload k => exact jx_aload hd hg h hq hP
    | istore_n k => exact jx_istore_n hd hg h hq hP
    | istore k => exact jx_istore hd hg h hq hP
    | astore_n k => exact jx_astore_n hd hg h hq hP
    | astore k => exact jx_astore hd hg h hq hP
    | iinc k n => exact jx_iinc hd hg h hq hP
    | iadd => exact jx_iadd hd hg h hq hP
    | isub => exact jx_isub hd hg h hq hP
    | imul => exact jx_imul hd hg h hq hP
    | idiv => exact jx_idiv hd hg h hq hP
    | irem => exact jx_irem hd hg h hq hP
    | iand => exact jx_iand hd hg h hq hP
    | ior => exact jx_ior hd hg h hq hP
    | ixor => exact jx_ixor hd hg h hq hP
    | ishl => exact jx_ishl hd hg h hq hP
    | i2l => exact jx_i2l hd hg h hq hP
    | lcmp => exact jx_lcmp hd hg h hq hP
    | dup => exact jx_dup hd hg h hq hP
    | dup2 => exact jx_dup2 hd hg h hq hP
    | pop => exact jx_pop hd hg h hq hP
    | goto off => exact jx_goto hd hg h hq hP
    | ifCond cnd off =>
      cases cnd with
      | eq => exact jx_ifCond_eq hd hg h hq hP
      | ne => exact jx_ifCond_ne hd hg h hq hP
      | lt => exact jx_ifCond_lt hd hg h hq hP
      | ge => exact jx_ifCond_ge hd hg h hq hP
      | gt => exact jx_ifCond_gt hd hg h hq hP
      | le => exact jx_ifCond_le hd hg h hq hP
    | if_icmp cnd off =>
      cases cnd with
      | eq => exact jx_if_icmp_eq hd hg h hq hP
      | ne => exact jx_if_icmp_ne hd hg h hq hP
      | lt => exact jx_if_icmp_lt hd hg h hq hP
      | ge => exact jx_if_icmp_ge hd hg h hq hP
      | gt => exact jx_if_icmp_gt hd hg h hq hP
      | le => exact jx_if_icmp_le hd hg h hq hP
    | ifnull off => exact jx_ifnull hd hg h hq hP
    | ifnonnull off => exact jx_ifnonnull hd hg h hq hP
    | tableswitch dflt lo hi offs => exact jx_tableswitch hd hg h hq hP
    | getfield idx => exact jx_getfield hd hg h hq hP
    | putfield idx => exact jx_putfield hd hg h hq hP
    | iaload => exact jx_iaload hd hg h hq hP
    | baload => exact jx_baload hd hg h hq hP
    | laload => exact jx_laload hd hg h hq hP
    | aaload => exact jx_aaload hd hg h hq hP
    | iastore => exact jx_iastore hd hg h hq hP
    | bastore => exact jx_bastore hd hg h hq hP
    | lastore => exact jx_lastore hd hg h hq hP
    | aastore => exact jx_aastore hd hg h hq hP
    | arraylength => exact jx_arraylength hd hg h hq hP
    | new idx => exact jx_new hd hg h hq hP
    | newarray ty => exact jx_newarray hd hg h hq hP
    | anewarray idx => exact jx_anewarray hd hg h hq hP
    | invokespecial idx => exact jx_objInit hd hg h hq hP
    | _ => exact (Option.some_ne_none _ h.symm).elim
theorem jm_sem_ret : ∀ (c : jm_Cf) (r : jm_Rs) (q : Prop), jm_ret c = some (r, q) → q → jm_P l b0 sc L xs H0 D dA c r := by
  rintro ⟨d, mi, pc, al, st, w, σ⟩ r q h hq
  simp only [jm_ret] at h
  cases hrow : jm_at mi pc with
  | none => rw [hrow] at h; cases h
  | some row =>
    obtain ⟨ins, nx, a, b, cv, tl⟩ := row
    rw [hrow] at h
    obtain ⟨hd, hg⟩ := jt_good hrow
    replace h : jm_rx d st w σ a tl ins = some (r, q) := h
    show jm_PP l b0 sc L xs H0 D dA d mi pc al st w σ r.1 r.2.1 r.2.2
    cases ins with
    | ireturn => exact jy_ireturn hd hg h hq
    | areturn => exact jy_areturn hd hg h hq
    | return_ => exact jy_return hd hg h hq
    | new idx => exact jy_throw hd hg h hq
    | _ => exact (Option.some_ne_none _ h.symm).elim
theorem jm_call_of {d mi pc : Nat} {al : List (Option Value)} {st : List Value} {w : Bool} {σ : jm_S} {a : jm_Cf} {nx : Nat} {rest : List Value} {q : Prop} (h : jm_call (d, mi, pc, al, st, w, σ) = some (a, nx, rest, q)) :
    ∃ (d' y : Nat) (as : List Value) (ins : Instr) (a' b : Nat) (cv : Int32) (tl : List Nat), d = d' + 1 ∧ jm_at mi pc = some (ins, nx, a', b, cv, tl) ∧ jm_kx st σ a' b tl ins = some (y, as, rest, q) ∧ jm_c1 as = true ∧ as.length ≤ jt_ml y ∧ a = (d', y, 0, jm_en y as, [], false, σ) := by
  cases d with
  | zero => cases h
  | succ d' =>
    simp only [jm_call] at h
    cases hrow : jm_at mi pc with
    | none => rw [hrow] at h; cases h
    | some row =>
      obtain ⟨ins, nx', a', b, cv, tl⟩ := row
      rw [hrow] at h
      simp only at h
      cases hk : jm_kx st σ a' b tl ins with
      | none => rw [hk] at h; cases h
      | some z =>
        obtain ⟨y, as, r, q'⟩ := z
        rw [hk] at h
        simp only at h
        split at h
        · rename_i hc
          cases h
          exact ⟨d', y, as, ins, a', b, cv, tl, rfl, rfl, hk, hc.1, hc.2, rfl⟩
        · cases h
theorem jm_sem_call (hl : ∀ e : Env, l.admits e → e.platform.stackTraces = false) : ∀ (c a : jm_Cf) (nx : Nat) (rest : List Value) (q : Prop) (v : Option Value) (σ : jm_S) (w : Bool) (r : jm_Rs), jm_call c = some (a, nx, rest, q) → q → jm_P l b0 sc L xs H0 D dA a (.inl v, σ, w) → jm_P l b0 sc L xs H0 D dA (jm_aft c nx rest v σ w) r → jm_P l b0 sc L xs H0 D dA c r := by
  rintro ⟨d, mi, pc, al, st, w, σ⟩ a nx rest q v σ1 w1 r h hq hPa hP2
  obtain ⟨d', y, as, ins, a', b, cv, tl, rfl, hrow, hk, hc1, hn1, rfl⟩ := jm_call_of h
  obtain ⟨hd, hg⟩ := jt_good hrow
  show jm_PP l b0 sc L xs H0 D dA (d' + 1) mi pc al st w σ r.1 r.2.1 r.2.2
  cases ins with
  | invokevirtual idx => exact jz_virtual hl hd hg hk hc1 hn1 hq hPa hP2
  | invokestatic idx => exact jz_static hl hd hg hk hc1 hn1 hq hPa hP2
  | invokespecial idx => exact jz_special hl hd hg hk hc1 hn1 hq hPa hP2
  | _ => exact (Option.some_ne_none _ hk.symm).elim
end
