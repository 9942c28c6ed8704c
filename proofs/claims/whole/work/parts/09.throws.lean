def jt_xs : List String := ["java/lang/RuntimeException", "java/lang/Exception"]
theorem jt_at_0 : ∀ w ∈ Bundle.ownAtoms (jt_cn 0) 94 (jt_xn 0) jt_xs, w ∈ jt_tb ∨ w ∈ jt_ts := by decide +kernel
theorem jt_at_1 : ∀ w ∈ Bundle.ownAtoms (jt_cn 0) 123 (jt_xn 1) jt_xs, w ∈ jt_tb ∨ w ∈ jt_ts := by decide +kernel
theorem jt_at_2 : ∀ w ∈ Bundle.ownAtoms (jt_cn 0) 105 (jt_xn 2) jt_xs, w ∈ jt_tb ∨ w ∈ jt_ts := by decide +kernel
def jt_thP (q : Nat × Nat × Nat × Nat × Nat) : Prop := Cond.classLink (jt_cn q.1) q.2.1 (jt_xn q.2.2.2.2) ∈ jt_tb ∧ Cond.instantiable (jt_xn q.2.2.2.2) 6 ∈ jt_tb ∧ Cond.initialized (jt_xn q.2.2.2.2) ∈ jt_tb ∧ (∃ tx, Cond.stringRef (jt_cn q.1) q.2.2.1 tx ∈ jt_tb) ∧ (∀ w ∈ Bundle.ownAtoms (jt_cn q.1) q.2.2.2.1 (jt_xn q.2.2.2.2) jt_xs, w ∈ jt_tb ∨ w ∈ jt_ts) ∧ Bundle.fit (jt_xn q.2.2.2.2) = true
def jt_th_0 : List (Nat × Nat × Nat × Nat × Nat) := [(0, 90, 92, 94, 0), (0, 101, 103, 105, 2), (0, 119, 121, 123, 1), (0, 119, 124, 123, 1), (0, 90, 161, 94, 0), (0, 119, 166, 123, 1), (0, 119, 171, 123, 1), (0, 119, 177, 123, 1), (0, 90, 187, 94, 0), (0, 101, 218, 105, 2), (0, 90, 230, 94, 0), (0, 90, 232, 94, 0), (0, 119, 234, 123, 1), (0, 90, 236, 94, 0), (0, 90, 238, 94, 0)]
theorem jt_th_0_ok : ∀ q ∈ jt_th_0, jt_thP q := List.forall_mem_cons.mpr ⟨⟨dk_245, dk_246, dk_10, ⟨_, dk_411⟩, jt_at_0, by decide +kernel⟩, List.forall_mem_cons.mpr ⟨⟨dk_419, dk_420, dk_13, ⟨_, dk_428⟩, jt_at_2, by decide +kernel⟩, List.forall_mem_cons.mpr ⟨⟨dk_351, dk_352, dk_11, ⟨_, dk_442⟩, jt_at_1, by decide +kernel⟩, List.forall_mem_cons.mpr ⟨⟨dk_351, dk_352, dk_11, ⟨_, dk_443⟩, jt_at_1, by decide +kernel⟩, List.forall_mem_cons.mpr ⟨⟨dk_245, dk_246, dk_10, ⟨_, dk_468⟩, jt_at_0, by decide +kernel⟩, List.forall_mem_cons.mpr ⟨⟨dk_351, dk_352, dk_11, ⟨_, dk_484⟩, jt_at_1, by decide +kernel⟩, List.forall_mem_cons.mpr ⟨⟨dk_351, dk_352, dk_11, ⟨_, dk_489⟩, jt_at_1, by decide +kernel⟩, List.forall_mem_cons.mpr ⟨⟨dk_351, dk_352, dk_11, ⟨_, dk_494⟩, jt_at_1, by decide +kernel⟩, List.forall_mem_cons.mpr ⟨⟨dk_245, dk_246, dk_10, ⟨_, dk_510⟩, jt_at_0, by decide +kernel⟩, List.forall_mem_cons.mpr ⟨⟨dk_419, dk_420, dk_13, ⟨_, dk_545⟩, jt_at_2, by decide +kernel⟩, List.forall_mem_cons.mpr ⟨⟨dk_245, dk_246, dk_10, ⟨_, dk_286⟩, jt_at_0, by decide +kernel⟩, List.forall_mem_cons.mpr ⟨⟨dk_245, dk_246, dk_10, ⟨_, dk_330⟩, jt_at_0, by decide +kernel⟩, List.forall_mem_cons.mpr ⟨⟨dk_351, dk_352, dk_11, ⟨_, dk_360⟩, jt_at_1, by decide +kernel⟩, List.forall_mem_cons.mpr ⟨⟨dk_245, dk_246, dk_10, ⟨_, dk_393⟩, jt_at_0, by decide +kernel⟩, List.forall_mem_cons.mpr ⟨⟨dk_245, dk_246, dk_10, ⟨_, dk_410⟩, jt_at_0, by decide +kernel⟩, fun _ h => absurd h List.not_mem_nil⟩⟩⟩⟩⟩⟩⟩⟩⟩⟩⟩⟩⟩⟩⟩
def jt_th : List (Nat × Nat × Nat × Nat × Nat) := jt_th_0
theorem jt_th_ok : ∀ q ∈ jt_th, jt_thP q := jt_th_0_ok
theorem jt_xi (E : Nat) : Cond.instantiable (jt_xn E) 6 ∈ jt_tb := by
  match E with
  | 0 => exact dk_246
  | 1 => exact dk_352
  | n + 2 => exact dk_420
def jt_tk (mi oc idx pc a : Nat) (tl : List Nat) : Bool := match tl with
  | [li, si] => decide (jt_hh mi = []) && decide (decode (jt_by mi) (pc + 3) = .ok (.dup, 1)) && decide (decode (jt_by mi) (pc + 3 + 1) = .ok (.ldc li, 2)) && decide (decode (jt_by mi) (pc + 3 + 1 + 2) = .ok (.invokespecial si, 3)) && decide (decode (jt_by mi) (pc + 3 + 1 + 2 + 3) = .ok (.athrow, 1)) && decide ((oc, idx, li, si, a - 100) ∈ jt_th)
  | _ => false
theorem jt_ta {mi oc idx pc a : Nat} {tl : List Nat} (h : jt_tk mi oc idx pc a tl = true) : ∃ (li si : Nat) (tx : String), jt_hh mi = [] ∧ decode (jt_by mi) (pc + 3) = .ok (.dup, 1) ∧ decode (jt_by mi) (pc + 3 + 1) = .ok (.ldc li, 2) ∧ decode (jt_by mi) (pc + 3 + 1 + 2) = .ok (.invokespecial si, 3) ∧ decode (jt_by mi) (pc + 3 + 1 + 2 + 3) = .ok (.athrow, 1) ∧ Cond.classLink (jt_cn oc) idx (jt_xn (a - 100)) ∈ jt_tb ∧ Cond.instantiable (jt_xn (a - 100)) 6 ∈ jt_tb ∧ Cond.initialized (jt_xn (a - 100)) ∈ jt_tb ∧ Cond.stringRef (jt_cn oc) li tx ∈ jt_tb ∧ (∀ w ∈ Bundle.ownAtoms (jt_cn oc) si (jt_xn (a - 100)) jt_xs, w ∈ jt_tb ∨ w ∈ jt_ts) ∧ Bundle.fit (jt_xn (a - 100)) = true := by
  unfold jt_tk at h
  split at h
  · rename_i li si
    simp only [Bool.and_eq_true, decide_eq_true_eq] at h
    obtain ⟨⟨⟨⟨⟨h1, h2⟩, h3⟩, h4⟩, h5⟩, h6⟩ := h
    obtain ⟨g1, g2, g3, ⟨tx, g4⟩, g5, g6⟩ := jt_th_ok _ h6
    exact ⟨li, si, tx, h1, h2, h3, h4, h5, g1, g2, g3, g4, g5, g6⟩
  · cases h
def jt_htail (mi k : Nat) (x : Int32) : Bool := match decode (jt_by mi) k with
  | .ok (.iconst n, 1) => Int32.ofInt n == x && decide (decode (jt_by mi) (k + 1) = .ok (.ireturn, 1))
  | _ => false
def jt_hcode (mi h : Nat) (x : Int32) : Bool := match decode (jt_by mi) h with
  | .ok (.astore_n k, 1) => decide ((k : Nat) < jt_ml mi) && jt_htail mi (h + 1) x
  | .ok (.astore k, 2) => decide (k < jt_ml mi) && jt_htail mi (h + 2) x
  | _ => false
theorem jt_ywn : ∀ y ∈ jt_yw, jt_hh y ≠ [] := by decide +kernel
