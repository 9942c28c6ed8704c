/-! runs of the small machine: what is made; leaves -/
def jC (L n : Nat) (R : Nat → Nat → Nat) (I : jHp) (s : Nat) : jm_S := (n, fun r => if r < n + 2 then jK L r else (0, 0), R, I, fun _ _ => 0, s, 0)
theorem nwC {L n k b s : Nat} {R : Nat → Nat → Nat} {I : jHp} (hR : ∀ j, R (n + 2) j = 0) (hI : ∀ j, I (n + 2) j = 0) (hk : jK L (n + 2) = (k, b)) : jm_nw (jC L n R I s) k b = jC L (n + 1) R I (s + b) := by
  have e1 : jm_at1 (fun r => if r < n + 2 then jK L r else (0, 0)) (n + 2) (k, b) = fun r => if r < n + 1 + 2 then jK L r else (0, 0) := by
    funext r
    unfold jm_at1
    by_cases e : r = n + 2
    · rw [if_pos e, if_pos (by omega), e, hk]
    · rw [if_neg e]
      show (if r < n + 2 then jK L r else (0, 0)) = _
      by_cases e2 : r < n + 2
      · rw [if_pos e2, if_pos (by omega)]
      · rw [if_neg e2, if_neg (by omega)]
  have e2 : jm_at1 R (n + 2) (fun _ => 0) = R := by
    funext r
    unfold jm_at1
    by_cases e : r = n + 2
    · rw [if_pos e]; funext j; rw [e, hR]
    · rw [if_neg e]
  have e3 : jm_at1 I (n + 2) (fun _ => 0) = I := by
    funext r
    unfold jm_at1
    by_cases e : r = n + 2
    · rw [if_pos e]; funext j; rw [e, hI]
    · rw [if_neg e]
  have e4 : jm_at1 (fun (_ _ : Nat) => (0 : Int64)) (n + 2) (fun _ => 0) = fun _ _ => 0 := by
    funext r
    unfold jm_at1
    exact ite_self _
  show ((n + 1, jm_at1 (fun r => if r < n + 2 then jK L r else (0, 0)) (n + 2) (k, b), jm_at1 R (n + 2) (fun _ => 0), jm_at1 I (n + 2) (fun _ => 0), jm_at1 (fun (_ _ : Nat) => (0 : Int64)) (n + 2) (fun _ => 0), s + b, 0) : jm_S) = _
  rw [e1, e2, e3, e4]
  rfl
theorem sRC {L n s : Nat} {R f : Nat → Nat → Nat} {I : jHp} : jm_sR (jC L n R I s) f = jC L n f I s := rfl
theorem sIC {L n s : Nat} {R : Nat → Nat → Nat} {I f : jHp} : jm_sI (jC L n R I s) f = jC L n R f s := rfl
theorem nC {L n s : Nat} {R : Nat → Nat → Nat} {I : jHp} : (jC L n R I s).1 = n := rfl
theorem cRC {L n s : Nat} {R : Nat → Nat → Nat} {I : jHp} : (jC L n R I s).2.2.1 = R := rfl
theorem cIC {L n s : Nat} {R : Nat → Nat → Nat} {I : jHp} : (jC L n R I s).2.2.2.1 = I := rfl
theorem cKC {L n s q k m : Nat} {R : Nat → Nat → Nat} {I : jHp} (h : jK L q = (k, m)) (h3 : q < n + 2) : (jC L n R I s).2.1 q = (k, m) := by
  show (if q < n + 2 then jK L q else (0, 0)) = _
  rw [if_pos h3, h]
theorem okC {L n s q k m : Nat} {R : Nat → Nat → Nat} {I : jHp} (h : jK L q = (k, m)) (h2 : 2 ≤ q) (h3 : q < n + 2) : jm_ok (jC L n R I s) q k := ⟨h2, h3, by rw [cKC h h3]⟩
theorem iwC {L n s q k m : Nat} {x : Int32} {R : Nat → Nat → Nat} {I : jHp} (h : jK L q = (k, m)) (h2 : 2 ≤ q) (h3 : q < n + 2) (hx : vp_in x m) : jm_iw (jC L n R I s) q k x := ⟨okC h h2 h3, by rw [cKC h h3]; exact hx⟩
/-- a reference laid into an array -/
theorem aaC {L n s q k m v k' m' : Nat} {x : Int32} {R : Nat → Nat → Nat} {I : jHp} (h : jK L q = (k, m)) (h2 : 2 ≤ q) (h3 : q < n + 2) (hx : vp_in x m) (hk : 13 ≤ k ∧ k < 17) (hv : jK L v = (k', m')) (hv2 : 2 ≤ v) (hv3 : v < n + 2) (hkv : k' = k - 12) : jm_iw (jC L n R I s) q ((jC L n R I s).2.1 q).1 x ∧ 13 ≤ ((jC L n R I s).2.1 q).1 ∧ ((jC L n R I s).2.1 q).1 < 17 ∧ jm_ok (jC L n R I s) v (((jC L n R I s).2.1 q).1 - 12) := by
  rw [cKC h h3]
  exact ⟨iwC h h2 h3 hx, hk.1, hk.2, by rw [← hkv]; exact okC hv hv2 hv3⟩
theorem up_v {α : Type} {f : Nat → Nat → α} {r j : Nat} {x : α} (h : f r j = x) : jm_up f r j x = f := by rw [← h]; exact up_id
def eNew (q : Nat) (I : jHp) : jHp := jm_up (jm_up (jm_up (jm_up (jm_up (jm_up (jm_up (jm_up (jm_up I q 0 (-1)) q 1 (-1)) q 2 (-1)) q 3 (-1)) q 4 (-1)) q 5 0) q 6 0) q 7 0) q 8 0
def pNew (q : Nat) (I : jHp) : jHp := jm_up (jm_up (jm_up (jm_up (jm_up (jm_up (jm_up I q 0 0) q 1 0) q 2 0) q 3 0) q 4 0) q 5 (-1)) q 6 (-1)
theorem eNew_v {I : jHp} {q : Nat} (h : ∀ j, I q j = 0) : ∀ r j, eNew q I r j = if r = q then (if j < 5 then -1 else 0) else I r j := by
  intro r j
  unfold eNew
  by_cases e : r = q
  · subst e
    rw [if_pos rfl]
    by_cases e0 : j = 8
    · subst e0; rw [up_s]; rfl
    by_cases e1 : j = 7
    · subst e1; rw [up_i (by omega), up_s]; rfl
    by_cases e2 : j = 6
    · subst e2; rw [up_i (by omega), up_i (by omega), up_s]; rfl
    by_cases e3 : j = 5
    · subst e3; rw [up_i (by omega), up_i (by omega), up_i (by omega), up_s]; rfl
    rw [up_i e0, up_i e1, up_i e2, up_i e3]
    by_cases e4 : j = 4
    · subst e4; rw [up_s]; rfl
    by_cases e5 : j = 3
    · subst e5; rw [up_i (by omega), up_s]; rfl
    by_cases e6 : j = 2
    · subst e6; rw [up_i (by omega), up_i (by omega), up_s]; rfl
    by_cases e7 : j = 1
    · subst e7; rw [up_i (by omega), up_i (by omega), up_i (by omega), up_s]; rfl
    by_cases e8 : j = 0
    · subst e8; rw [up_i (by omega), up_i (by omega), up_i (by omega), up_i (by omega), up_s]; rfl
    rw [up_i e4, up_i e5, up_i e6, up_i e7, up_i e8, if_neg (by omega), h]
  · rw [if_neg e, up_k e, up_k e, up_k e, up_k e, up_k e, up_k e, up_k e, up_k e, up_k e]
theorem pNew_v {I : jHp} {q : Nat} (h : ∀ j, I q j = 0) : ∀ r j, pNew q I r j = if r = q then (if j = 5 ∨ j = 6 then -1 else 0) else I r j := by
  intro r j
  unfold pNew
  rw [up_v (x := 0) (h 0), up_v (x := 0) (h 1), up_v (x := 0) (h 2), up_v (x := 0) (h 3), up_v (x := 0) (h 4)]
  by_cases e : r = q
  · subst e
    rw [if_pos rfl]
    by_cases e0 : j = 6
    · subst e0; rw [up_s]; rfl
    by_cases e1 : j = 5
    · subst e1; rw [up_i (by omega), up_s]; rfl
    rw [up_i e0, up_i e1, if_neg (by omega), h]
  · rw [if_neg e, up_k e, up_k e]
section
variable {L n d s : Nat} {R : Nat → Nat → Nat} {I : jHp}
theorem tE_new {q : Nat} (hq : jm_ok (jC L n R I s) q 4) : jm_F (d + 1, 73, 0, jm_en 73 [.ref q], [], false, jC L n R I s) (.inl none) (jC L n R (eNew q I) s) := by
  have h1 : 1 ≤ q := by have := hq.1; omega
  repeat (first | refine jF_step rfl trivial ?_ | refine jF_step rfl rfl ?_ | refine jF_step rfl ⟨by omega, Nat.le_of_ble_eq_true rfl, h1⟩ ?_ | refine jF_step rfl ⟨⟨by omega, Nat.le_of_ble_eq_true rfl, h1⟩, Or.inl rfl⟩ ?_ | refine jF_step rfl ⟨⟨by omega, Nat.le_of_ble_eq_true rfl, h1⟩, Or.inr rfl⟩ ?_ | refine jF_step rfl hq ?_ | refine jF_step rfl ⟨hq, Or.inl rfl⟩ ?_ | refine jF_step rfl ⟨hq, Or.inr rfl⟩ ?_)
  exact jF_ret rfl trivial
theorem tP_new {q : Nat} (hq : jm_ok (jC L n R I s) q 3) : jm_F (d + 1, 82, 0, jm_en 82 [.ref q], [], false, jC L n R I s) (.inl none) (jC L n R (pNew q I) s) := by
  have h1 : 1 ≤ q := by have := hq.1; omega
  repeat (first | refine jF_step rfl trivial ?_ | refine jF_step rfl rfl ?_ | refine jF_step rfl ⟨by omega, Nat.le_of_ble_eq_true rfl, h1⟩ ?_ | refine jF_step rfl ⟨⟨by omega, Nat.le_of_ble_eq_true rfl, h1⟩, Or.inl rfl⟩ ?_ | refine jF_step rfl ⟨⟨by omega, Nat.le_of_ble_eq_true rfl, h1⟩, Or.inr rfl⟩ ?_ | refine jF_step rfl hq ?_ | refine jF_step rfl ⟨hq, Or.inl rfl⟩ ?_ | refine jF_step rfl ⟨hq, Or.inr rfl⟩ ?_)
  exact jF_ret rfl trivial
def cRef (c : Nat) (R : Nat → Nat → Nat) : Nat → Nat → Nat := jm_up (jm_up (jm_up R (102 + 4 * c) 0 (103 + 4 * c)) (102 + 4 * c) 1 (104 + 4 * c)) (102 + 4 * c) 2 (105 + 4 * c)
theorem tC_new {c : Nat} (hc : c < 16) (hn : n = 101 + 4 * c) (hR : ∀ r j, n + 2 ≤ r → R r j = 0) (hI : ∀ r j, n + 2 ≤ r → I r j = 0) (hI0 : ∀ j, I (102 + 4 * c) j = 0) : jm_F (d + 1, 69, 0, jm_en 69 [.ref (102 + 4 * c)], [], false, jC L n R I s) (.inl none) (jC L (104 + 4 * c) (cRef c R) I (s + 24)) := by
  subst hn
  have h1 : 1 ≤ 102 + 4 * c := by omega
  have ok : ∀ n R s, 101 + 4 * c ≤ n → jm_ok (jC L n R I s) (102 + 4 * c) 2 := fun n R s h => okC (lk_cast hc) (by omega) (by omega)
  have k1 : jK L (101 + 4 * c + 2) = (10, 8) := by rw [show 101 + 4 * c + 2 = 102 + 1 + 4 * c by omega]; exact lk_carr hc (by omega)
  have k2 : jK L (101 + 4 * c + 1 + 2) = (10, 8) := by rw [show 101 + 4 * c + 1 + 2 = 102 + 2 + 4 * c by omega]; exact lk_carr hc (by omega)
  have k3 : jK L (101 + 4 * c + 1 + 1 + 2) = (10, 8) := by rw [show 101 + 4 * c + 1 + 1 + 2 = 102 + 3 + 4 * c by omega]; exact lk_carr hc (by omega)
  iterate 4 (first | refine jF_step rfl trivial ?_ | refine jF_step rfl rfl ?_ | refine jF_step rfl ⟨by omega, Nat.le_of_ble_eq_true rfl, h1⟩ ?_ | refine jF_step rfl ⟨⟨by omega, Nat.le_of_ble_eq_true rfl, h1⟩, Or.inl rfl⟩ ?_ | refine jF_step rfl ⟨⟨by omega, Nat.le_of_ble_eq_true rfl, h1⟩, Or.inr rfl⟩ ?_)
  refine jF_step rfl ⟨rfl, by decide, by decide⟩ ?_
  rw [show Int32.toNatClampNeg 8 = 8 from rfl, nwC (fun j => hR _ _ (by omega)) (fun j => hI _ _ (by omega)) k1]
  refine jF_step rfl (ok _ _ _ (by omega)) ?_
  rw [sRC, cRC]
  iterate 2 (first | refine jF_step rfl trivial ?_ | refine jF_step rfl rfl ?_)
  refine jF_step rfl ⟨rfl, by decide, by decide⟩ ?_
  rw [show Int32.toNatClampNeg 8 = 8 from rfl, nwC (fun j => by rw [up_k (by omega)]; exact hR _ _ (by omega)) (fun j => hI _ _ (by omega)) k2]
  refine jF_step rfl (ok _ _ _ (by omega)) ?_
  rw [sRC, cRC]
  iterate 2 (first | refine jF_step rfl trivial ?_ | refine jF_step rfl rfl ?_)
  refine jF_step rfl ⟨rfl, by decide, by decide⟩ ?_
  rw [show Int32.toNatClampNeg 8 = 8 from rfl, nwC (fun j => by rw [up_k (by omega), up_k (by omega)]; exact hR _ _ (by omega)) (fun j => hI _ _ (by omega)) k3]
  refine jF_step rfl (ok _ _ _ (by omega)) ?_
  rw [sRC, cRC]
  iterate 2 (first | refine jF_step rfl trivial ?_ | refine jF_step rfl rfl ?_)
  refine jF_step rfl (ok _ _ _ (by omega)) ?_
  rw [sIC, cIC, up_v (hI0 3)]
  iterate 2 (first | refine jF_step rfl trivial ?_ | refine jF_step rfl rfl ?_)
  refine jF_step rfl (ok _ _ _ (by omega)) ?_
  rw [sIC, cIC, up_v (hI0 4)]
  refine jF_eq (jF_ret rfl trivial) ?_
  unfold cRef
  simp only [nC]
  rw [show 101 + 4 * c + 2 + 1 = 104 + 4 * c by omega, show 101 + 4 * c + 2 = 103 + 4 * c by omega, show 103 + 4 * c + 2 = 105 + 4 * c by omega]
end
