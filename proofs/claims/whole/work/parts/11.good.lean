/-! a row of the tables says what the bytes say -/
def jm_gi (mi pc nx a b : Nat) (cv : Int32) (tl : List Nat) : Instr → Bool
  | .iconst n => nx == pc + 1 && Int32.ofInt n == cv
  | .bipush n => nx == pc + 2 && (Int8.ofInt n).toInt32 == cv
  | .sipush n => nx == pc + 3 && (Int16.ofInt n).toInt32 == cv
  | .iload_n k => nx == pc + 1 && (k : Nat) == a
  | .iload k => nx == pc + 2 && k == a
  | .aload_n k => nx == pc + 1 && (k : Nat) == a
  | .aload k => nx == pc + 2 && k == a
  | .istore_n k => nx == pc + 1 && (k : Nat) == a && decide (a < jt_ml mi)
  | .istore k => nx == pc + 2 && k == a && decide (a < jt_ml mi)
  | .astore_n k => nx == pc + 1 && (k : Nat) == a && decide (a < jt_ml mi)
  | .astore k => nx == pc + 2 && k == a && decide (a < jt_ml mi)
  | .iinc k n => nx == pc + 3 && k == a && Int32.ofInt n == cv && decide (a < jt_ml mi)
  | .goto off => nx == pc + 3 && decide ((pc : Int) + off = (a : Int))
  | .ifCond _ off => nx == pc + 3 && decide ((pc : Int) + off = (a : Int))
  | .if_icmp _ off => nx == pc + 3 && decide ((pc : Int) + off = (a : Int))
  | .ifnull off => nx == pc + 3 && decide ((pc : Int) + off = (a : Int))
  | .ifnonnull off => nx == pc + 3 && decide ((pc : Int) + off = (a : Int))
  | .tableswitch dflt lo hi offs => decide ((pc : Int) + dflt = (a : Int)) && decide (hi - lo + 1 = (offs.size : Int)) && decide (offs.toList.map (fun o => (pc : Int) + o) = tl.map (fun (x : Nat) => (x : Int)))
  | .getfield idx => nx == pc + 3 && jt_fk (jt_oc mi) idx a b tl
  | .putfield idx => nx == pc + 3 && jt_fk (jt_oc mi) idx a b tl && (if (jt_F a b).2.2.2 = true then decide ((jt_nm mi).name = "<init>") && decide ((jt_F a b).1 = jt_cn (jt_oc mi)) && decide ((jt_oc mi, idx, a, b, 0) ∈ jt_fl) else true)
  | .new idx => nx == pc + 3 && (if a < 10 then jt_nk (jt_oc mi) idx a b else jt_tk mi (jt_oc mi) idx pc a tl)
  | .newarray ty => nx == pc + 2 && jt_rk a ty
  | .anewarray idx => nx == pc + 3 && jt_ak (jt_oc mi) idx a
  | .invokevirtual idx => nx == pc + 3 && jt_ck 0 (jt_oc mi) idx a b tl
  | .invokestatic idx => nx == pc + 3 && jt_ck 1 (jt_oc mi) idx a b tl
  | .invokespecial idx => nx == pc + 3 && (if a = 999 then jt_ok (jt_oc mi) idx else jt_ck 2 (jt_oc mi) idx a b tl)
  | .ireturn => nx == pc + 1 && (match tl with
    | 0 :: _ => decide (jt_rt mi = some .int)
    | 1 :: _ => decide (jt_rt mi = some .boolean)
    | _ => false)
  | .areturn => nx == pc + 1 && (match jt_rt mi with
    | some (.object _) => true
    | _ => false)
  | .return_ => nx == pc + 1 && decide (jt_rt mi = none)
  | _ => nx == pc + 1
def jm_gd (mi : Nat) (q : Nat × jm_Row) : Bool := decide (decode (jt_by mi) q.1 = .ok (q.2.1, q.2.2.1 - q.1)) && jm_gi mi q.1 q.2.2.1 q.2.2.2.1 q.2.2.2.2.1 q.2.2.2.2.2.1 q.2.2.2.2.2.2 q.2.1
