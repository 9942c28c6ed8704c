/-! the rules of the small machine over the tables jt_ -/
def jm_at (mi pc : Nat) : Option jm_Row := (jt_code mi).lookup pc
def jm_step (c : jm_Cf) : Option (jm_Cf × Prop) := match c with
  | (d, mi, pc, al, st, w, σ) => match jm_at mi pc with
    | some (ins, nx, a, b, cv, tl) => jm_ex d mi al st w σ nx a b cv tl ins
    | none => none
def jm_ret (c : jm_Cf) : Option (jm_Rs × Prop) := match c with
  | (d, mi, pc, _, st, w, σ) => match jm_at mi pc with
    | some (ins, _, a, _, _, tl) => jm_rx d st w σ a tl ins
    | none => none
def jm_en (y : Nat) (as : List Value) : List (Option Value) := as.map some ++ List.replicate (jt_ml y - as.length) none
def jm_call (c : jm_Cf) : Option (jm_Cf × Nat × List Value × Prop) := match c with
  | (d + 1, mi, pc, _, st, _, σ) => match jm_at mi pc with
    | some (ins, nx, a, b, _, tl) => match jm_kx st σ a b tl ins with
      | some (y, as, r, q) => if jm_c1 as = true ∧ as.length ≤ jt_ml y then some ((d, y, 0, jm_en y as, [], false, σ), nx, r, q) else none
      | none => none
    | none => none
  | _ => none
def jm_aft (c : jm_Cf) (nx : Nat) (r : List Value) (v : Option Value) (σ : jm_S) (w : Bool) : jm_Cf := match c with
  | (d, mi, _, al, _, w0, _) => (d, mi, nx, al, v.toList ++ r, w0 || w, σ)
def jm_mi (c : jm_Cf) : Nat := c.2.1
def jm_w (c : jm_Cf) : Bool := c.2.2.2.2.2.1
def jm_vs (c : jm_Cf) : Bool := match jm_at c.2.1 c.2.2.1 with
  | some (.invokevirtual _, _) => true
  | some (.invokestatic _, _) => true
  | _ => false
def jm_rules (P : jm_Cf → jm_Rs → Prop) : Prop :=
  (∀ c c' q r, jm_step c = some (c', q) → q → P c' r → P c r) ∧
  (∀ c r q, jm_ret c = some (r, q) → q → P c r) ∧
  (∀ c a nx rest q v σ w r, jm_call c = some (a, nx, rest, q) → q → P a (.inl v, σ, w) → P (jm_aft c nx rest v σ w) r → P c r) ∧
  (∀ c a nx rest q E σ w, jm_call c = some (a, nx, rest, q) → q → P a (.inr E, σ, w) → jm_vs c = true → jt_hh (jm_mi a) = [] → jt_hh (jm_mi c) = [] → P c (.inr E, σ, jm_w c || w)) ∧
  (∀ c a nx rest q E σ w x, jm_call c = some (a, nx, rest, q) → q → P a (.inr E, σ, w) → jm_vs c = true → jt_hh (jm_mi a) = [] → (jt_hd (jm_mi c)).lookup E = some x → P c (.inl (some (.int x)), σ, true))
/-- the frame comes to this end -/
def jm_E (c : jm_Cf) (r : jm_Rs) : Prop := ∀ P : jm_Cf → jm_Rs → Prop, jm_rules P → P c r
theorem jE_step {c c' : jm_Cf} {q : Prop} {r : jm_Rs} (h : jm_step c = some (c', q)) (hq : q) (k : jm_E c' r) : jm_E c r := fun P hP => hP.1 c c' q r h hq (k P hP)
theorem jE_ret {c : jm_Cf} {q : Prop} {r : jm_Rs} (h : jm_ret c = some (r, q)) (hq : q) : jm_E c r := fun P hP => hP.2.1 c r q h hq
theorem jE_call {c a : jm_Cf} {nx : Nat} {rest : List Value} {q : Prop} {v : Option Value} {σ : jm_S} {w : Bool} {r : jm_Rs} (h : jm_call c = some (a, nx, rest, q)) (hq : q) (ka : jm_E a (.inl v, σ, w)) (k : jm_E (jm_aft c nx rest v σ w) r) : jm_E c r := fun P hP => hP.2.2.1 c a nx rest q v σ w r h hq (ka P hP) (k P hP)
theorem jE_thr {c a : jm_Cf} {nx : Nat} {rest : List Value} {q : Prop} {E : Nat} {σ : jm_S} {w : Bool} (h : jm_call c = some (a, nx, rest, q)) (hq : q) (ka : jm_E a (.inr E, σ, w)) (hv : jm_vs c = true) (ha : jt_hh (jm_mi a) = []) (hh : jt_hh (jm_mi c) = []) : jm_E c (.inr E, σ, jm_w c || w) := fun P hP => hP.2.2.2.1 c a nx rest q E σ w h hq (ka P hP) hv ha hh
theorem jE_cat {c a : jm_Cf} {nx : Nat} {rest : List Value} {q : Prop} {E : Nat} {σ : jm_S} {w : Bool} {x : Int32} (h : jm_call c = some (a, nx, rest, q)) (hq : q) (ka : jm_E a (.inr E, σ, w)) (hv : jm_vs c = true) (ha : jt_hh (jm_mi a) = []) (hh : (jt_hd (jm_mi c)).lookup E = some x) : jm_E c (.inl (some (.int x)), σ, true) := fun P hP => hP.2.2.2.2 c a nx rest q E σ w x h hq (ka P hP) hv ha hh
