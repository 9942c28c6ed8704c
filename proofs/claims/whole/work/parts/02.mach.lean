/-! the small machine: a frame (depth, method, pc, locals, stack, has it written) over a heap of numbered cells -/
/-- the heap: how many cells; what each is (kind, length); its references, ints, longs; slots laid; throws so far. Reference 0 is null, 1 the script, k + 2 the k-th made cell -/
abbrev jm_S : Type := Nat × (Nat → Nat × Nat) × (Nat → Nat → Nat) × (Nat → Nat → Int32) × (Nat → Nat → Int64) × Nat × Nat
abbrev jm_Cf : Type := Nat × Nat × Nat × List (Option Value) × List Value × Bool × jm_S
abbrev jm_Rs : Type := (Option Value ⊕ Nat) × jm_S × Bool
abbrev jm_Row : Type := Instr × Nat × Nat × Nat × Int32 × List Nat
def jm_up {α : Type} (f : Nat → Nat → α) (r j : Nat) (x : α) : Nat → Nat → α := fun k i => if i = j then (if k = r then x else f k i) else f k i
def jm_at1 {α : Type} (f : Nat → α) (r : Nat) (x : α) : Nat → α := fun k => if k = r then x else f k
def jm_ok (σ : jm_S) (r k : Nat) : Prop := 2 ≤ r ∧ r < σ.1 + 2 ∧ (σ.2.1 r).1 = k
def jm_ix (σ : jm_S) (r k : Nat) (i : Int32) : Prop := (r = 1 ∨ 2 ≤ r ∧ r < σ.1 + 2) ∧ (σ.2.1 r).1 = k ∧ vp_in i (σ.2.1 r).2
def jm_iw (σ : jm_S) (r k : Nat) (i : Int32) : Prop := jm_ok σ r k ∧ vp_in i (σ.2.1 r).2
def jm_sR (σ : jm_S) (f : Nat → Nat → Nat) : jm_S := (σ.1, σ.2.1, f, σ.2.2.2)
def jm_sI (σ : jm_S) (f : Nat → Nat → Int32) : jm_S := (σ.1, σ.2.1, σ.2.2.1, f, σ.2.2.2.2)
def jm_sL (σ : jm_S) (f : Nat → Nat → Int64) : jm_S := (σ.1, σ.2.1, σ.2.2.1, σ.2.2.2.1, f, σ.2.2.2.2.2)
/-- a new cell of kind k and length b -/
def jm_nw (σ : jm_S) (k b : Nat) : jm_S := (σ.1 + 1, jm_at1 σ.2.1 (σ.1 + 2) (k, b), jm_at1 σ.2.2.1 (σ.1 + 2) (fun _ => 0), jm_at1 σ.2.2.2.1 (σ.1 + 2) (fun _ => 0), jm_at1 σ.2.2.2.2.1 (σ.1 + 2) (fun _ => 0), σ.2.2.2.2.2.1 + b, σ.2.2.2.2.2.2)
/-- one throw more -/
def jm_th (σ : jm_S) : jm_S := (σ.1, σ.2.1, σ.2.2.1, σ.2.2.2.1, σ.2.2.2.2.1, σ.2.2.2.2.2.1, σ.2.2.2.2.2.2 + 1)
def jm_nc (σ : jm_S) : Nat := σ.1 + σ.2.2.2.2.2.2
def jm_ns (σ : jm_S) : Nat := σ.2.2.2.2.2.1 + 6 * σ.2.2.2.2.2.2
def jm_cat (st : List Value) : Nat := (st.map fun v => v.category).sum
/-- one instruction that neither calls nor leaves: the next frame, and what must hold -/
def jm_ex (d mi : Nat) (al : List (Option Value)) (st : List Value) (w : Bool) (σ : jm_S) (nx a b : Nat) (cv : Int32) (tl : List Nat) : Instr → Option (jm_Cf × Prop)
  | .iconst _ => some ((d, mi, nx, al, .int cv :: st, w, σ), True)
  | .bipush _ => some ((d, mi, nx, al, .int cv :: st, w, σ), True)
  | .sipush _ => some ((d, mi, nx, al, .int cv :: st, w, σ), True)
  | .lconst n => some ((d, mi, nx, al, .long (Int64.ofNat (n : Nat)) :: st, w, σ), True)
  | .aconst_null => some ((d, mi, nx, al, .ref 0 :: st, w, σ), True)
  | .iload_n _ => match al.getD a none with
    | some (.int x) => some ((d, mi, nx, al, .int x :: st, w, σ), True)
    | _ => none
  | .iload _ => match al.getD a none with
    | some (.int x) => some ((d, mi, nx, al, .int x :: st, w, σ), True)
    | _ => none
  | .aload_n _ => match al.getD a none with
    | some (.ref x) => some ((d, mi, nx, al, .ref x :: st, w, σ), True)
    | _ => none
  | .aload _ => match al.getD a none with
    | some (.ref x) => some ((d, mi, nx, al, .ref x :: st, w, σ), True)
    | _ => none
  | .istore_n _ => match st with
    | .int x :: r => some ((d, mi, nx, al.set a (some (.int x)), r, w, σ), True)
    | _ => none
  | .istore _ => match st with
    | .int x :: r => some ((d, mi, nx, al.set a (some (.int x)), r, w, σ), True)
    | _ => none
  | .astore_n _ => match st with
    | .ref x :: r => some ((d, mi, nx, al.set a (some (.ref x)), r, w, σ), True)
    | _ => none
  | .astore _ => match st with
    | .ref x :: r => some ((d, mi, nx, al.set a (some (.ref x)), r, w, σ), True)
    | _ => none
  | .iinc _ _ => match al.getD a none with
    | some (.int x) => some ((d, mi, nx, al.set a (some (.int (x + cv))), st, w, σ), True)
    | _ => none
  | .iadd => match st with
    | .int y :: .int x :: r => some ((d, mi, nx, al, .int (x + y) :: r, w, σ), True)
    | _ => none
  | .isub => match st with
    | .int y :: .int x :: r => some ((d, mi, nx, al, .int (x - y) :: r, w, σ), True)
    | _ => none
  | .imul => match st with
    | .int y :: .int x :: r => some ((d, mi, nx, al, .int (x * y) :: r, w, σ), True)
    | _ => none
  | .idiv => match st with
    | .int y :: .int x :: r => some ((d, mi, nx, al, .int (x / y) :: r, w, σ), ¬ y = 0)
    | _ => none
  | .irem => match st with
    | .int y :: .int x :: r => some ((d, mi, nx, al, .int (x - x / y * y) :: r, w, σ), ¬ y = 0)
    | _ => none
  | .iand => match st with
    | .int y :: .int x :: r => some ((d, mi, nx, al, .int (x &&& y) :: r, w, σ), True)
    | _ => none
  | .ior => match st with
    | .int y :: .int x :: r => some ((d, mi, nx, al, .int (x ||| y) :: r, w, σ), True)
    | _ => none
  | .ixor => match st with
    | .int y :: .int x :: r => some ((d, mi, nx, al, .int (x ^^^ y) :: r, w, σ), True)
    | _ => none
  | .ishl => match st with
    | .int y :: .int x :: r => some ((d, mi, nx, al, .int (x <<< (y &&& 31)) :: r, w, σ), True)
    | _ => none
  | .i2l => match st with
    | .int x :: r => some ((d, mi, nx, al, .long x.toInt64 :: r, w, σ), True)
    | _ => none
  | .lcmp => match st with
    | .long y :: .long x :: r => some ((d, mi, nx, al, .int (lg_cmp x y) :: r, w, σ), True)
    | _ => none
  | .dup => match st with
    | v :: r => some ((d, mi, nx, al, v :: v :: r, w, σ), v.category = 1)
    | _ => none
  | .dup2 => match st with
    | v :: u :: r => some ((d, mi, nx, al, v :: u :: v :: u :: r, w, σ), v.category = 1 ∧ u.category = 1)
    | _ => none
  | .pop => match st with
    | v :: r => some ((d, mi, nx, al, r, w, σ), v.category = 1)
    | _ => none
  | .goto _ => some ((d, mi, a, al, st, w, σ), True)
  | .ifCond .eq _ => match st with
    | .int x :: r => some ((d, mi, if x = 0 then a else nx, al, r, w, σ), True)
    | _ => none
  | .ifCond .ne _ => match st with
    | .int x :: r => some ((d, mi, if x = 0 then nx else a, al, r, w, σ), True)
    | _ => none
  | .ifCond .lt _ => match st with
    | .int x :: r => some ((d, mi, if x < 0 then a else nx, al, r, w, σ), True)
    | _ => none
  | .ifCond .ge _ => match st with
    | .int x :: r => some ((d, mi, if 0 ≤ x then a else nx, al, r, w, σ), True)
    | _ => none
  | .ifCond .gt _ => match st with
    | .int x :: r => some ((d, mi, if 0 < x then a else nx, al, r, w, σ), True)
    | _ => none
  | .ifCond .le _ => match st with
    | .int x :: r => some ((d, mi, if x ≤ 0 then a else nx, al, r, w, σ), True)
    | _ => none
  | .if_icmp .eq _ => match st with
    | .int y :: .int x :: r => some ((d, mi, if x = y then a else nx, al, r, w, σ), True)
    | _ => none
  | .if_icmp .ne _ => match st with
    | .int y :: .int x :: r => some ((d, mi, if x = y then nx else a, al, r, w, σ), True)
    | _ => none
  | .if_icmp .lt _ => match st with
    | .int y :: .int x :: r => some ((d, mi, if x < y then a else nx, al, r, w, σ), True)
    | _ => none
  | .if_icmp .ge _ => match st with
    | .int y :: .int x :: r => some ((d, mi, if y ≤ x then a else nx, al, r, w, σ), True)
    | _ => none
  | .if_icmp .gt _ => match st with
    | .int y :: .int x :: r => some ((d, mi, if y < x then a else nx, al, r, w, σ), True)
    | _ => none
  | .if_icmp .le _ => match st with
    | .int y :: .int x :: r => some ((d, mi, if x ≤ y then a else nx, al, r, w, σ), True)
    | _ => none
  | .ifnull _ => match st with
    | .ref x :: r => some ((d, mi, if x = 0 then a else nx, al, r, w, σ), True)
    | _ => none
  | .ifnonnull _ => match st with
    | .ref x :: r => some ((d, mi, if x = 0 then nx else a, al, r, w, σ), True)
    | _ => none
  | .tableswitch _ lo hi _ => match st with
    | .int x :: r => some ((d, mi, if x.toInt < lo ∨ hi < x.toInt then a else tl.getD (x.toInt - lo).toNat 0, al, r, w, σ), True)
    | _ => none
  | .getfield _ => match st with
    | .ref q :: r => match tl with
      | 2 :: _ => some ((d, mi, nx, al, .ref (σ.2.2.1 q b) :: r, w, σ), jm_ok σ q a)
      | _ => some ((d, mi, nx, al, .int (σ.2.2.2.1 q b) :: r, w, σ), jm_ok σ q a)
    | _ => none
  | .putfield _ => match st with
    | .ref v :: .ref q :: r => match tl with
      | 2 :: _ => some ((d, mi, nx, al, r, true, jm_sR σ (jm_up σ.2.2.1 q b v)), jm_ok σ q a)
      | _ => none
    | .int x :: .ref q :: r => match tl with
      | 0 :: _ => some ((d, mi, nx, al, r, true, jm_sI σ (jm_up σ.2.2.2.1 q b x)), jm_ok σ q a)
      | 1 :: _ => some ((d, mi, nx, al, r, true, jm_sI σ (jm_up σ.2.2.2.1 q b x)), jm_ok σ q a ∧ (x = 0 ∨ x = 1))
      | _ => none
    | _ => none
  | .iaload => match st with
    | .int i :: .ref q :: r => some ((d, mi, nx, al, .int (σ.2.2.2.1 q i.toNatClampNeg) :: r, w, σ), jm_ix σ q 10 i)
    | _ => none
  | .baload => match st with
    | .int i :: .ref q :: r => some ((d, mi, nx, al, .int (σ.2.2.2.1 q i.toNatClampNeg) :: r, w, σ), jm_iw σ q 11 i)
    | _ => none
  | .laload => match st with
    | .int i :: .ref q :: r => some ((d, mi, nx, al, .long (σ.2.2.2.2.1 q i.toNatClampNeg) :: r, w, σ), jm_iw σ q 12 i)
    | _ => none
  | .aaload => match st with
    | .int i :: .ref q :: r => some ((d, mi, nx, al, .ref (σ.2.2.1 q i.toNatClampNeg) :: r, w, σ), jm_iw σ q (σ.2.1 q).1 i ∧ 13 ≤ (σ.2.1 q).1 ∧ (σ.2.1 q).1 < 17)
    | _ => none
  | .iastore => match st with
    | .int x :: .int i :: .ref q :: r => some ((d, mi, nx, al, r, true, jm_sI σ (jm_up σ.2.2.2.1 q i.toNatClampNeg x)), jm_iw σ q 10 i)
    | _ => none
  | .bastore => match st with
    | .int x :: .int i :: .ref q :: r => some ((d, mi, nx, al, r, true, jm_sI σ (jm_up σ.2.2.2.1 q i.toNatClampNeg x)), jm_iw σ q 11 i ∧ (x = 0 ∨ x = 1))
    | _ => none
  | .lastore => match st with
    | .long x :: .int i :: .ref q :: r => some ((d, mi, nx, al, r, true, jm_sL σ (jm_up σ.2.2.2.2.1 q i.toNatClampNeg x)), jm_iw σ q 12 i)
    | _ => none
  | .aastore => match st with
    | .ref v :: .int i :: .ref q :: r => some ((d, mi, nx, al, r, true, jm_sR σ (jm_up σ.2.2.1 q i.toNatClampNeg v)), jm_iw σ q (σ.2.1 q).1 i ∧ 13 ≤ (σ.2.1 q).1 ∧ (σ.2.1 q).1 < 17 ∧ jm_ok σ v ((σ.2.1 q).1 - 12))
    | _ => none
  | .arraylength => match st with
    | .ref q :: r => some ((d, mi, nx, al, .int (Int32.ofNat (σ.2.1 q).2) :: r, w, σ), q = 1 ∨ (2 ≤ q ∧ q < σ.1 + 2 ∧ 10 ≤ (σ.2.1 q).1 ∧ (σ.2.1 q).1 < 17))
    | _ => none
  | .new _ => if a < 10 then some ((d, mi, nx, al, .ref (σ.1 + 2) :: st, true, jm_nw σ a b), σ.2.2.2.2.2.2 = 0) else none
  | .newarray _ => match st with
    | .int x :: r => some ((d, mi, nx, al, .ref (σ.1 + 2) :: r, true, jm_nw σ a x.toNatClampNeg), σ.2.2.2.2.2.2 = 0 ∧ ¬ x < 0 ∧ x.toNatClampNeg ≤ 1000)
    | _ => none
  | .anewarray _ => match st with
    | .int x :: r => some ((d, mi, nx, al, .ref (σ.1 + 2) :: r, true, jm_nw σ a x.toNatClampNeg), σ.2.2.2.2.2.2 = 0 ∧ ¬ x < 0 ∧ x.toNatClampNeg ≤ 1000)
    | _ => none
  | .invokespecial _ => if a = 999 then (match st with
    | .ref q :: r => some ((d, mi, nx, al, r, w, σ), 1 ≤ d ∧ jm_cat r ≤ 8 ∧ 1 ≤ q)
    | _ => none) else none
  | _ => none
/-- leaving: an answer, or a throw of an own exception -/
def jm_rx (d : Nat) (st : List Value) (w : Bool) (σ : jm_S) (a : Nat) (tl : List Nat) : Instr → Option (jm_Rs × Prop)
  | .ireturn => match st with
    | [.int x] => match tl with
      | 0 :: _ => some ((.inl (some (.int x)), σ, w), True)
      | 1 :: _ => some ((.inl (some (.int x)), σ, w), x = 0 ∨ x = 1)
      | _ => none
    | _ => none
  | .areturn => match st with
    | [.ref x] => some ((.inl (some (.ref x)), σ, w), True)
    | _ => none
  | .return_ => match st with
    | [] => some ((.inl none, σ, w), True)
    | _ => none
  | .new _ => match st with
    | [] => if 100 ≤ a then some ((.inr (a - 100), jm_th σ, false), w = false ∧ 6 ≤ d) else none
    | _ => none
  | _ => none
def jm_c1 : List Value → Bool
  | [] => true
  | .int _ :: t => jm_c1 t
  | .ref _ :: t => jm_c1 t
  | _ => false
/-- calling: the callee, its arguments, the rest of the stack, and what must hold -/
def jm_kx (st : List Value) (σ : jm_S) (a b : Nat) (tl : List Nat) : Instr → Option (Nat × List Value × List Value × Prop)
  | .invokestatic _ => some (a, (st.take b).reverse, st.drop b, jm_cat (st.drop b) ≤ 8 ∧ b ≤ st.length)
  | .invokevirtual _ => match st.drop b with
    | .ref q :: r => some (a, .ref q :: (st.take b).reverse, r, jm_cat r ≤ 8 ∧ jm_ok σ q (tl.getD 0 0))
    | _ => none
  | .invokespecial _ => if a = 999 then none else match st.drop b with
    | .ref q :: r => some (a, .ref q :: (st.take b).reverse, r, jm_cat r ≤ 8 ∧ 2 ≤ q)
    | _ => none
  | _ => none
