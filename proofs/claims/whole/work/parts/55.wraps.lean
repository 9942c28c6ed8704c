/-! runs of the small machine: the law's wrappers -/
theorem z0 : (0 : Int32).toNatClampNeg = 0 := rfl
section
variable {L t d : Nat} {I : jHp} {G : Nat → Nat → Int64}
theorem mw_out : jm_iw (jS L I G t) 209 12 0 := lw (k := 12) (n := 1) rfl (by decide) (by decide) (show vp_in (nI 0) 1 from vp_in_nI (by decide) (by decide))
theorem w_on {x0 v : Int32} {I1 : jHp} (h : jm_F (d, 1, 0, jm_en 1 [.ref 2, .int x0], [], false, jS L I G t) (.inl (some (.int v))) (jS L I1 G t)) : jm_F (d + 1, 86, 0, jm_en 86 [.ref 2, .int x0, .ref 209], [], false, jS L I G t) (.inl (some (.int 0))) (jS L I1 (jm_up G 209 0 (if v = 0 then 0 else 1)) t) := by
  repeat (first | refine jF_step rfl trivial ?_ | refine jF_step rfl rfl ?_)
  refine jF_call rfl ⟨Nat.le_of_ble_eq_true rfl, lo_net⟩ h (fun w => ?_)
  repeat (first | refine jF_step rfl trivial ?_ | refine jF_step rfl rfl ?_)
  by_cases hv : v = 0
  · rw [if_pos hv, if_pos hv]
    repeat (first | refine jF_step rfl trivial ?_ | refine jF_step rfl rfl ?_ | refine jF_step rfl mw_out ?_ | refine jF_step rfl ⟨mw_out, Or.inl rfl⟩ ?_ | refine jF_step rfl ⟨mw_out, Or.inr rfl⟩ ?_)
    exact jF_ret rfl trivial
  · rw [if_neg hv, if_neg hv]
    repeat (first | refine jF_step rfl trivial ?_ | refine jF_step rfl rfl ?_ | refine jF_step rfl mw_out ?_ | refine jF_step rfl ⟨mw_out, Or.inl rfl⟩ ?_ | refine jF_step rfl ⟨mw_out, Or.inr rfl⟩ ?_)
    exact jF_ret rfl trivial
theorem w_onX0 {x0 : Int32} (h : jm_F (d, 1, 0, jm_en 1 [.ref 2, .int x0], [], false, jS L I G t) (.inr 0) (jS L I G (t + 1))) : jm_F (d + 1, 86, 0, jm_en 86 [.ref 2, .int x0, .ref 209], [], false, jS L I G t) (.inl (some (.int 1))) (jS L I G (t + 1)) := by
  repeat (first | refine jF_step rfl trivial ?_ | refine jF_step rfl rfl ?_)
  exact jF_cat rfl ⟨Nat.le_of_ble_eq_true rfl, lo_net⟩ h rfl rfl rfl
theorem w_off {x0 v : Int32} {I1 : jHp} (h : jm_F (d, 2, 0, jm_en 2 [.ref 2, .int x0], [], false, jS L I G t) (.inl (some (.int v))) (jS L I1 G t)) : jm_F (d + 1, 87, 0, jm_en 87 [.ref 2, .int x0, .ref 209], [], false, jS L I G t) (.inl (some (.int 0))) (jS L I1 (jm_up G 209 0 (if v = 0 then 0 else 1)) t) := by
  repeat (first | refine jF_step rfl trivial ?_ | refine jF_step rfl rfl ?_)
  refine jF_call rfl ⟨Nat.le_of_ble_eq_true rfl, lo_net⟩ h (fun w => ?_)
  repeat (first | refine jF_step rfl trivial ?_ | refine jF_step rfl rfl ?_)
  by_cases hv : v = 0
  · rw [if_pos hv, if_pos hv]
    repeat (first | refine jF_step rfl trivial ?_ | refine jF_step rfl rfl ?_ | refine jF_step rfl mw_out ?_ | refine jF_step rfl ⟨mw_out, Or.inl rfl⟩ ?_ | refine jF_step rfl ⟨mw_out, Or.inr rfl⟩ ?_)
    exact jF_ret rfl trivial
  · rw [if_neg hv, if_neg hv]
    repeat (first | refine jF_step rfl trivial ?_ | refine jF_step rfl rfl ?_ | refine jF_step rfl mw_out ?_ | refine jF_step rfl ⟨mw_out, Or.inl rfl⟩ ?_ | refine jF_step rfl ⟨mw_out, Or.inr rfl⟩ ?_)
    exact jF_ret rfl trivial
theorem w_offX0 {x0 : Int32} (h : jm_F (d, 2, 0, jm_en 2 [.ref 2, .int x0], [], false, jS L I G t) (.inr 0) (jS L I G (t + 1))) : jm_F (d + 1, 87, 0, jm_en 87 [.ref 2, .int x0, .ref 209], [], false, jS L I G t) (.inl (some (.int 1))) (jS L I G (t + 1)) := by
  repeat (first | refine jF_step rfl trivial ?_ | refine jF_step rfl rfl ?_)
  exact jF_cat rfl ⟨Nat.le_of_ble_eq_true rfl, lo_net⟩ h rfl rfl rfl
theorem w_link {x0 x1 x2 v : Int32} {I1 : jHp} (h : jm_F (d, 3, 0, jm_en 3 [.ref 2, .int x0, .int x1, .int x2], [], false, jS L I G t) (.inl (some (.int v))) (jS L I1 G t)) : jm_F (d + 1, 88, 0, jm_en 88 [.ref 2, .int x0, .int x1, .int x2, .ref 209], [], false, jS L I G t) (.inl (some (.int 0))) (jS L I1 (jm_up G 209 0 (if v = 0 then 0 else 1)) t) := by
  repeat (first | refine jF_step rfl trivial ?_ | refine jF_step rfl rfl ?_)
  refine jF_call rfl ⟨Nat.le_of_ble_eq_true rfl, lo_net⟩ h (fun w => ?_)
  repeat (first | refine jF_step rfl trivial ?_ | refine jF_step rfl rfl ?_)
  by_cases hv : v = 0
  · rw [if_pos hv, if_pos hv]
    repeat (first | refine jF_step rfl trivial ?_ | refine jF_step rfl rfl ?_ | refine jF_step rfl mw_out ?_ | refine jF_step rfl ⟨mw_out, Or.inl rfl⟩ ?_ | refine jF_step rfl ⟨mw_out, Or.inr rfl⟩ ?_)
    exact jF_ret rfl trivial
  · rw [if_neg hv, if_neg hv]
    repeat (first | refine jF_step rfl trivial ?_ | refine jF_step rfl rfl ?_ | refine jF_step rfl mw_out ?_ | refine jF_step rfl ⟨mw_out, Or.inl rfl⟩ ?_ | refine jF_step rfl ⟨mw_out, Or.inr rfl⟩ ?_)
    exact jF_ret rfl trivial
theorem w_linkX0 {x0 x1 x2 : Int32} (h : jm_F (d, 3, 0, jm_en 3 [.ref 2, .int x0, .int x1, .int x2], [], false, jS L I G t) (.inr 0) (jS L I G (t + 1))) : jm_F (d + 1, 88, 0, jm_en 88 [.ref 2, .int x0, .int x1, .int x2, .ref 209], [], false, jS L I G t) (.inl (some (.int 1))) (jS L I G (t + 1)) := by
  repeat (first | refine jF_step rfl trivial ?_ | refine jF_step rfl rfl ?_)
  exact jF_cat rfl ⟨Nat.le_of_ble_eq_true rfl, lo_net⟩ h rfl rfl rfl
theorem w_cast {x0 x1 v : Int32} {I1 : jHp} (h : jm_F (d, 4, 0, jm_en 4 [.ref 2, .int x0, .int x1], [], false, jS L I G t) (.inl (some (.int v))) (jS L I1 G t)) : jm_F (d + 1, 89, 0, jm_en 89 [.ref 2, .int x0, .int x1, .ref 209], [], false, jS L I G t) (.inl (some (.int 0))) (jS L I1 (jm_up G 209 0 v.toInt64) t) := by
  repeat (first | refine jF_step rfl trivial ?_ | refine jF_step rfl rfl ?_)
  refine jF_call rfl ⟨Nat.le_of_ble_eq_true rfl, lo_net⟩ h (fun w => ?_)
  repeat (first | refine jF_step rfl trivial ?_ | refine jF_step rfl rfl ?_ | refine jF_step rfl mw_out ?_ | refine jF_step rfl ⟨mw_out, Or.inl rfl⟩ ?_ | refine jF_step rfl ⟨mw_out, Or.inr rfl⟩ ?_)
  exact jF_ret rfl trivial
theorem w_castX0 {x0 x1 : Int32} (h : jm_F (d, 4, 0, jm_en 4 [.ref 2, .int x0, .int x1], [], false, jS L I G t) (.inr 0) (jS L I G (t + 1))) : jm_F (d + 1, 89, 0, jm_en 89 [.ref 2, .int x0, .int x1, .ref 209], [], false, jS L I G t) (.inl (some (.int 1))) (jS L I G (t + 1)) := by
  repeat (first | refine jF_step rfl trivial ?_ | refine jF_step rfl rfl ?_)
  exact jF_cat rfl ⟨Nat.le_of_ble_eq_true rfl, lo_net⟩ h rfl rfl rfl
theorem w_castX1 {x0 x1 : Int32} (h : jm_F (d, 4, 0, jm_en 4 [.ref 2, .int x0, .int x1], [], false, jS L I G t) (.inr 1) (jS L I G (t + 1))) : jm_F (d + 1, 89, 0, jm_en 89 [.ref 2, .int x0, .int x1, .ref 209], [], false, jS L I G t) (.inl (some (.int 2))) (jS L I G (t + 1)) := by
  repeat (first | refine jF_step rfl trivial ?_ | refine jF_step rfl rfl ?_)
  exact jF_cat rfl ⟨Nat.le_of_ble_eq_true rfl, lo_net⟩ h rfl rfl rfl
theorem w_parts {x0 v : Int32} {I1 : jHp} (h : jm_F (d, 5, 0, jm_en 5 [.ref 2, .int x0], [], false, jS L I G t) (.inl (some (.int v))) (jS L I1 G t)) : jm_F (d + 1, 90, 0, jm_en 90 [.ref 2, .int x0, .ref 209], [], false, jS L I G t) (.inl (some (.int 0))) (jS L I1 (jm_up G 209 0 v.toInt64) t) := by
  repeat (first | refine jF_step rfl trivial ?_ | refine jF_step rfl rfl ?_)
  refine jF_call rfl ⟨Nat.le_of_ble_eq_true rfl, lo_net⟩ h (fun w => ?_)
  repeat (first | refine jF_step rfl trivial ?_ | refine jF_step rfl rfl ?_ | refine jF_step rfl mw_out ?_ | refine jF_step rfl ⟨mw_out, Or.inl rfl⟩ ?_ | refine jF_step rfl ⟨mw_out, Or.inr rfl⟩ ?_)
  exact jF_ret rfl trivial
theorem w_partsX0 {x0 : Int32} (h : jm_F (d, 5, 0, jm_en 5 [.ref 2, .int x0], [], false, jS L I G t) (.inr 0) (jS L I G (t + 1))) : jm_F (d + 1, 90, 0, jm_en 90 [.ref 2, .int x0, .ref 209], [], false, jS L I G t) (.inl (some (.int 1))) (jS L I G (t + 1)) := by
  repeat (first | refine jF_step rfl trivial ?_ | refine jF_step rfl rfl ?_)
  exact jF_cat rfl ⟨Nat.le_of_ble_eq_true rfl, lo_net⟩ h rfl rfl rfl
theorem w_entry {x0 x1 x2 x3 v : Int32} {I1 : jHp} (h : jm_F (d, 6, 0, jm_en 6 [.ref 2, .int x0, .int x1, .int x2, .int x3], [], false, jS L I G t) (.inl (some (.int v))) (jS L I1 G t)) : jm_F (d + 1, 91, 0, jm_en 91 [.ref 2, .int x0, .int x1, .int x2, .int x3, .ref 209], [], false, jS L I G t) (.inl (some (.int 0))) (jS L I1 (jm_up G 209 0 v.toInt64) t) := by
  repeat (first | refine jF_step rfl trivial ?_ | refine jF_step rfl rfl ?_)
  refine jF_call rfl ⟨Nat.le_of_ble_eq_true rfl, lo_net⟩ h (fun w => ?_)
  repeat (first | refine jF_step rfl trivial ?_ | refine jF_step rfl rfl ?_ | refine jF_step rfl mw_out ?_ | refine jF_step rfl ⟨mw_out, Or.inl rfl⟩ ?_ | refine jF_step rfl ⟨mw_out, Or.inr rfl⟩ ?_)
  exact jF_ret rfl trivial
theorem w_entryX0 {x0 x1 x2 x3 : Int32} (h : jm_F (d, 6, 0, jm_en 6 [.ref 2, .int x0, .int x1, .int x2, .int x3], [], false, jS L I G t) (.inr 0) (jS L I G (t + 1))) : jm_F (d + 1, 91, 0, jm_en 91 [.ref 2, .int x0, .int x1, .int x2, .int x3, .ref 209], [], false, jS L I G t) (.inl (some (.int 1))) (jS L I G (t + 1)) := by
  repeat (first | refine jF_step rfl trivial ?_ | refine jF_step rfl rfl ?_)
  exact jF_cat rfl ⟨Nat.le_of_ble_eq_true rfl, lo_net⟩ h rfl rfl rfl
theorem w_entryX2 {x0 x1 x2 x3 : Int32} (h : jm_F (d, 6, 0, jm_en 6 [.ref 2, .int x0, .int x1, .int x2, .int x3], [], false, jS L I G t) (.inr 2) (jS L I G (t + 1))) : jm_F (d + 1, 91, 0, jm_en 91 [.ref 2, .int x0, .int x1, .int x2, .int x3, .ref 209], [], false, jS L I G t) (.inl (some (.int 2))) (jS L I G (t + 1)) := by
  repeat (first | refine jF_step rfl trivial ?_ | refine jF_step rfl rfl ?_)
  exact jF_cat rfl ⟨Nat.le_of_ble_eq_true rfl, lo_net⟩ h rfl rfl rfl
theorem w_hear {x0 x1 x2 x3 v : Int32} {I1 : jHp} (h : jm_F (d, 7, 0, jm_en 7 [.ref 2, .int x0, .int x1, .int x2, .int x3], [], false, jS L I G t) (.inl (some (.int v))) (jS L I1 G t)) : jm_F (d + 1, 92, 0, jm_en 92 [.ref 2, .int x0, .int x1, .int x2, .int x3, .ref 209], [], false, jS L I G t) (.inl (some (.int 0))) (jS L I1 (jm_up G 209 0 v.toInt64) t) := by
  repeat (first | refine jF_step rfl trivial ?_ | refine jF_step rfl rfl ?_)
  refine jF_call rfl ⟨Nat.le_of_ble_eq_true rfl, lo_net⟩ h (fun w => ?_)
  repeat (first | refine jF_step rfl trivial ?_ | refine jF_step rfl rfl ?_ | refine jF_step rfl mw_out ?_ | refine jF_step rfl ⟨mw_out, Or.inl rfl⟩ ?_ | refine jF_step rfl ⟨mw_out, Or.inr rfl⟩ ?_)
  exact jF_ret rfl trivial
theorem w_hearX0 {x0 x1 x2 x3 : Int32} (h : jm_F (d, 7, 0, jm_en 7 [.ref 2, .int x0, .int x1, .int x2, .int x3], [], false, jS L I G t) (.inr 0) (jS L I G (t + 1))) : jm_F (d + 1, 92, 0, jm_en 92 [.ref 2, .int x0, .int x1, .int x2, .int x3, .ref 209], [], false, jS L I G t) (.inl (some (.int 1))) (jS L I G (t + 1)) := by
  repeat (first | refine jF_step rfl trivial ?_ | refine jF_step rfl rfl ?_)
  exact jF_cat rfl ⟨Nat.le_of_ble_eq_true rfl, lo_net⟩ h rfl rfl rfl
theorem w_hearX1 {x0 x1 x2 x3 : Int32} (h : jm_F (d, 7, 0, jm_en 7 [.ref 2, .int x0, .int x1, .int x2, .int x3], [], false, jS L I G t) (.inr 1) (jS L I G (t + 1))) : jm_F (d + 1, 92, 0, jm_en 92 [.ref 2, .int x0, .int x1, .int x2, .int x3, .ref 209], [], false, jS L I G t) (.inl (some (.int 2))) (jS L I G (t + 1)) := by
  repeat (first | refine jF_step rfl trivial ?_ | refine jF_step rfl rfl ?_)
  exact jF_cat rfl ⟨Nat.le_of_ble_eq_true rfl, lo_net⟩ h rfl rfl rfl
theorem w_route {x0 x1 x2 v : Int32} {I1 : jHp} (h : jm_F (d, 9, 0, jm_en 9 [.ref 2, .int x0, .int x1, .int x2], [], false, jS L I G t) (.inl (some (.int v))) (jS L I1 G t)) : jm_F (d + 1, 93, 0, jm_en 93 [.ref 2, .int x0, .int x1, .int x2, .ref 209], [], false, jS L I G t) (.inl (some (.int 0))) (jS L I1 (jm_up G 209 0 v.toInt64) t) := by
  repeat (first | refine jF_step rfl trivial ?_ | refine jF_step rfl rfl ?_)
  refine jF_call rfl ⟨Nat.le_of_ble_eq_true rfl, lo_net⟩ h (fun w => ?_)
  repeat (first | refine jF_step rfl trivial ?_ | refine jF_step rfl rfl ?_ | refine jF_step rfl mw_out ?_ | refine jF_step rfl ⟨mw_out, Or.inl rfl⟩ ?_ | refine jF_step rfl ⟨mw_out, Or.inr rfl⟩ ?_)
  exact jF_ret rfl trivial
theorem w_routeX0 {x0 x1 x2 : Int32} (h : jm_F (d, 9, 0, jm_en 9 [.ref 2, .int x0, .int x1, .int x2], [], false, jS L I G t) (.inr 0) (jS L I G (t + 1))) : jm_F (d + 1, 93, 0, jm_en 93 [.ref 2, .int x0, .int x1, .int x2, .ref 209], [], false, jS L I G t) (.inl (some (.int 1))) (jS L I G (t + 1)) := by
  repeat (first | refine jF_step rfl trivial ?_ | refine jF_step rfl rfl ?_)
  exact jF_cat rfl ⟨Nat.le_of_ble_eq_true rfl, lo_net⟩ h rfl rfl rfl
theorem w_two {x0 x1 v : Int32} {I1 : jHp} (h : jm_F (d, 10, 0, jm_en 10 [.ref 2, .int x0, .int x1], [], false, jS L I G t) (.inl (some (.int v))) (jS L I1 G t)) : jm_F (d + 1, 94, 0, jm_en 94 [.ref 2, .int x0, .int x1, .ref 209], [], false, jS L I G t) (.inl (some (.int 0))) (jS L I1 (jm_up G 209 0 (if v = 0 then 0 else 1)) t) := by
  repeat (first | refine jF_step rfl trivial ?_ | refine jF_step rfl rfl ?_)
  refine jF_call rfl ⟨Nat.le_of_ble_eq_true rfl, lo_net⟩ h (fun w => ?_)
  repeat (first | refine jF_step rfl trivial ?_ | refine jF_step rfl rfl ?_)
  by_cases hv : v = 0
  · rw [if_pos hv, if_pos hv]
    repeat (first | refine jF_step rfl trivial ?_ | refine jF_step rfl rfl ?_ | refine jF_step rfl mw_out ?_ | refine jF_step rfl ⟨mw_out, Or.inl rfl⟩ ?_ | refine jF_step rfl ⟨mw_out, Or.inr rfl⟩ ?_)
    exact jF_ret rfl trivial
  · rw [if_neg hv, if_neg hv]
    repeat (first | refine jF_step rfl trivial ?_ | refine jF_step rfl rfl ?_ | refine jF_step rfl mw_out ?_ | refine jF_step rfl ⟨mw_out, Or.inl rfl⟩ ?_ | refine jF_step rfl ⟨mw_out, Or.inr rfl⟩ ?_)
    exact jF_ret rfl trivial
theorem w_twoX0 {x0 x1 : Int32} (h : jm_F (d, 10, 0, jm_en 10 [.ref 2, .int x0, .int x1], [], false, jS L I G t) (.inr 0) (jS L I G (t + 1))) : jm_F (d + 1, 94, 0, jm_en 94 [.ref 2, .int x0, .int x1, .ref 209], [], false, jS L I G t) (.inl (some (.int 1))) (jS L I G (t + 1)) := by
  repeat (first | refine jF_step rfl trivial ?_ | refine jF_step rfl rfl ?_)
  exact jF_cat rfl ⟨Nat.le_of_ble_eq_true rfl, lo_net⟩ h rfl rfl rfl
theorem w_send {x0 x1 x2 v : Int32} {I1 : jHp} (h : jm_F (d, 11, 0, jm_en 11 [.ref 2, .int x0, .int x1, .int x2], [], false, jS L I G t) (.inl (some (.int v))) (jS L I1 G t)) : jm_F (d + 1, 95, 0, jm_en 95 [.ref 2, .int x0, .int x1, .int x2, .ref 209], [], false, jS L I G t) (.inl (some (.int 0))) (jS L I1 (jm_up G 209 0 v.toInt64) t) := by
  repeat (first | refine jF_step rfl trivial ?_ | refine jF_step rfl rfl ?_)
  refine jF_call rfl ⟨Nat.le_of_ble_eq_true rfl, lo_net⟩ h (fun w => ?_)
  repeat (first | refine jF_step rfl trivial ?_ | refine jF_step rfl rfl ?_ | refine jF_step rfl mw_out ?_ | refine jF_step rfl ⟨mw_out, Or.inl rfl⟩ ?_ | refine jF_step rfl ⟨mw_out, Or.inr rfl⟩ ?_)
  exact jF_ret rfl trivial
theorem w_sendX0 {x0 x1 x2 : Int32} (h : jm_F (d, 11, 0, jm_en 11 [.ref 2, .int x0, .int x1, .int x2], [], false, jS L I G t) (.inr 0) (jS L I G (t + 1))) : jm_F (d + 1, 95, 0, jm_en 95 [.ref 2, .int x0, .int x1, .int x2, .ref 209], [], false, jS L I G t) (.inl (some (.int 1))) (jS L I G (t + 1)) := by
  repeat (first | refine jF_step rfl trivial ?_ | refine jF_step rfl rfl ?_)
  exact jF_cat rfl ⟨Nat.le_of_ble_eq_true rfl, lo_net⟩ h rfl rfl rfl
theorem w_sendX1 {x0 x1 x2 : Int32} (h : jm_F (d, 11, 0, jm_en 11 [.ref 2, .int x0, .int x1, .int x2], [], false, jS L I G t) (.inr 1) (jS L I G (t + 1))) : jm_F (d + 1, 95, 0, jm_en 95 [.ref 2, .int x0, .int x1, .int x2, .ref 209], [], false, jS L I G t) (.inl (some (.int 2))) (jS L I G (t + 1)) := by
  repeat (first | refine jF_step rfl trivial ?_ | refine jF_step rfl rfl ?_)
  exact jF_cat rfl ⟨Nat.le_of_ble_eq_true rfl, lo_net⟩ h rfl rfl rfl
theorem w_move {x0 v : Int32} {I1 : jHp} (h : jm_F (d, 12, 0, jm_en 12 [.ref 2, .int x0], [], false, jS L I G t) (.inl (some (.int v))) (jS L I1 G t)) : jm_F (d + 1, 96, 0, jm_en 96 [.ref 2, .int x0, .ref 209], [], false, jS L I G t) (.inl (some (.int 0))) (jS L I1 (jm_up G 209 0 v.toInt64) t) := by
  repeat (first | refine jF_step rfl trivial ?_ | refine jF_step rfl rfl ?_)
  refine jF_call rfl ⟨Nat.le_of_ble_eq_true rfl, lo_net⟩ h (fun w => ?_)
  repeat (first | refine jF_step rfl trivial ?_ | refine jF_step rfl rfl ?_ | refine jF_step rfl mw_out ?_ | refine jF_step rfl ⟨mw_out, Or.inl rfl⟩ ?_ | refine jF_step rfl ⟨mw_out, Or.inr rfl⟩ ?_)
  exact jF_ret rfl trivial
theorem w_moveX0 {x0 : Int32} (h : jm_F (d, 12, 0, jm_en 12 [.ref 2, .int x0], [], false, jS L I G t) (.inr 0) (jS L I G (t + 1))) : jm_F (d + 1, 96, 0, jm_en 96 [.ref 2, .int x0, .ref 209], [], false, jS L I G t) (.inl (some (.int 1))) (jS L I G (t + 1)) := by
  repeat (first | refine jF_step rfl trivial ?_ | refine jF_step rfl rfl ?_)
  exact jF_cat rfl ⟨Nat.le_of_ble_eq_true rfl, lo_net⟩ h rfl rfl rfl
theorem w_moveX1 {x0 : Int32} (h : jm_F (d, 12, 0, jm_en 12 [.ref 2, .int x0], [], false, jS L I G t) (.inr 1) (jS L I G (t + 1))) : jm_F (d + 1, 96, 0, jm_en 96 [.ref 2, .int x0, .ref 209], [], false, jS L I G t) (.inl (some (.int 2))) (jS L I G (t + 1)) := by
  repeat (first | refine jF_step rfl trivial ?_ | refine jF_step rfl rfl ?_)
  exact jF_cat rfl ⟨Nat.le_of_ble_eq_true rfl, lo_net⟩ h rfl rfl rfl
theorem w_waiting {x0 v : Int32} {I1 : jHp} (h : jm_F (d, 13, 0, jm_en 13 [.ref 2, .int x0], [], false, jS L I G t) (.inl (some (.int v))) (jS L I1 G t)) : jm_F (d + 1, 97, 0, jm_en 97 [.ref 2, .int x0, .ref 209], [], false, jS L I G t) (.inl (some (.int 0))) (jS L I1 (jm_up G 209 0 v.toInt64) t) := by
  repeat (first | refine jF_step rfl trivial ?_ | refine jF_step rfl rfl ?_)
  refine jF_call rfl ⟨Nat.le_of_ble_eq_true rfl, lo_net⟩ h (fun w => ?_)
  repeat (first | refine jF_step rfl trivial ?_ | refine jF_step rfl rfl ?_ | refine jF_step rfl mw_out ?_ | refine jF_step rfl ⟨mw_out, Or.inl rfl⟩ ?_ | refine jF_step rfl ⟨mw_out, Or.inr rfl⟩ ?_)
  exact jF_ret rfl trivial
theorem w_waitingX0 {x0 : Int32} (h : jm_F (d, 13, 0, jm_en 13 [.ref 2, .int x0], [], false, jS L I G t) (.inr 0) (jS L I G (t + 1))) : jm_F (d + 1, 97, 0, jm_en 97 [.ref 2, .int x0, .ref 209], [], false, jS L I G t) (.inl (some (.int 1))) (jS L I G (t + 1)) := by
  repeat (first | refine jF_step rfl trivial ?_ | refine jF_step rfl rfl ?_)
  exact jF_cat rfl ⟨Nat.le_of_ble_eq_true rfl, lo_net⟩ h rfl rfl rfl
theorem w_got {x0 x1 v : Int32} {I1 : jHp} (h : jm_F (d, 14, 0, jm_en 14 [.ref 2, .int x0, .int x1], [], false, jS L I G t) (.inl (some (.int v))) (jS L I1 G t)) : jm_F (d + 1, 98, 0, jm_en 98 [.ref 2, .int x0, .int x1, .ref 209], [], false, jS L I G t) (.inl (some (.int 0))) (jS L I1 (jm_up G 209 0 v.toInt64) t) := by
  repeat (first | refine jF_step rfl trivial ?_ | refine jF_step rfl rfl ?_)
  refine jF_call rfl ⟨Nat.le_of_ble_eq_true rfl, lo_net⟩ h (fun w => ?_)
  repeat (first | refine jF_step rfl trivial ?_ | refine jF_step rfl rfl ?_ | refine jF_step rfl mw_out ?_ | refine jF_step rfl ⟨mw_out, Or.inl rfl⟩ ?_ | refine jF_step rfl ⟨mw_out, Or.inr rfl⟩ ?_)
  exact jF_ret rfl trivial
theorem w_gotX0 {x0 x1 : Int32} (h : jm_F (d, 14, 0, jm_en 14 [.ref 2, .int x0, .int x1], [], false, jS L I G t) (.inr 0) (jS L I G (t + 1))) : jm_F (d + 1, 98, 0, jm_en 98 [.ref 2, .int x0, .int x1, .ref 209], [], false, jS L I G t) (.inl (some (.int 1))) (jS L I G (t + 1)) := by
  repeat (first | refine jF_step rfl trivial ?_ | refine jF_step rfl rfl ?_)
  exact jF_cat rfl ⟨Nat.le_of_ble_eq_true rfl, lo_net⟩ h rfl rfl rfl
theorem w_gotX2 {x0 x1 : Int32} (h : jm_F (d, 14, 0, jm_en 14 [.ref 2, .int x0, .int x1], [], false, jS L I G t) (.inr 2) (jS L I G (t + 1))) : jm_F (d + 1, 98, 0, jm_en 98 [.ref 2, .int x0, .int x1, .ref 209], [], false, jS L I G t) (.inl (some (.int 2))) (jS L I G (t + 1)) := by
  repeat (first | refine jF_step rfl trivial ?_ | refine jF_step rfl rfl ?_)
  exact jF_cat rfl ⟨Nat.le_of_ble_eq_true rfl, lo_net⟩ h rfl rfl rfl
theorem w_circle {x0 v : Int32} {I1 : jHp} (h : jm_F (d, 15, 0, jm_en 15 [.ref 2, .int x0], [], false, jS L I G t) (.inl (some (.int v))) (jS L I1 G t)) : jm_F (d + 1, 99, 0, jm_en 99 [.ref 2, .int x0, .ref 209], [], false, jS L I G t) (.inl (some (.int 0))) (jS L I1 (jm_up G 209 0 v.toInt64) t) := by
  repeat (first | refine jF_step rfl trivial ?_ | refine jF_step rfl rfl ?_)
  refine jF_call rfl ⟨Nat.le_of_ble_eq_true rfl, lo_net⟩ h (fun w => ?_)
  repeat (first | refine jF_step rfl trivial ?_ | refine jF_step rfl rfl ?_ | refine jF_step rfl mw_out ?_ | refine jF_step rfl ⟨mw_out, Or.inl rfl⟩ ?_ | refine jF_step rfl ⟨mw_out, Or.inr rfl⟩ ?_)
  exact jF_ret rfl trivial
theorem w_circleX0 {x0 : Int32} (h : jm_F (d, 15, 0, jm_en 15 [.ref 2, .int x0], [], false, jS L I G t) (.inr 0) (jS L I G (t + 1))) : jm_F (d + 1, 99, 0, jm_en 99 [.ref 2, .int x0, .ref 209], [], false, jS L I G t) (.inl (some (.int 1))) (jS L I G (t + 1)) := by
  repeat (first | refine jF_step rfl trivial ?_ | refine jF_step rfl rfl ?_)
  exact jF_cat rfl ⟨Nat.le_of_ble_eq_true rfl, lo_net⟩ h rfl rfl rfl
theorem w_best {x0 x1 v : Int32} {I1 : jHp} (h : jm_F (d, 16, 0, jm_en 16 [.ref 2, .int x0, .int x1], [], false, jS L I G t) (.inl (some (.int v))) (jS L I1 G t)) : jm_F (d + 1, 100, 0, jm_en 100 [.ref 2, .int x0, .int x1, .ref 209], [], false, jS L I G t) (.inl (some (.int 0))) (jS L I1 (jm_up G 209 0 v.toInt64) t) := by
  repeat (first | refine jF_step rfl trivial ?_ | refine jF_step rfl rfl ?_)
  refine jF_call rfl ⟨Nat.le_of_ble_eq_true rfl, lo_net⟩ h (fun w => ?_)
  repeat (first | refine jF_step rfl trivial ?_ | refine jF_step rfl rfl ?_ | refine jF_step rfl mw_out ?_ | refine jF_step rfl ⟨mw_out, Or.inl rfl⟩ ?_ | refine jF_step rfl ⟨mw_out, Or.inr rfl⟩ ?_)
  exact jF_ret rfl trivial
theorem w_bestX0 {x0 x1 : Int32} (h : jm_F (d, 16, 0, jm_en 16 [.ref 2, .int x0, .int x1], [], false, jS L I G t) (.inr 0) (jS L I G (t + 1))) : jm_F (d + 1, 100, 0, jm_en 100 [.ref 2, .int x0, .int x1, .ref 209], [], false, jS L I G t) (.inl (some (.int 1))) (jS L I G (t + 1)) := by
  repeat (first | refine jF_step rfl trivial ?_ | refine jF_step rfl rfl ?_)
  exact jF_cat rfl ⟨Nat.le_of_ble_eq_true rfl, lo_net⟩ h rfl rfl rfl
end
