def jt_R : Nat → String := fun a => match a with
  | 0 => dR_N
  | 1 => dR_B
  | 2 => dR_C
  | 3 => dR_P
  | 4 => dR_E
  | _ => dR_M
def jt_F : Nat → u_T := fun a => match a with
  | 0 => dF_N
  | 1 => dF_B
  | 2 => dF_C
  | 3 => dF_P
  | 4 => dF_E
  | _ => dF_M
def jt_Y : Nat → (Nat → FieldType) := fun a => match a with
  | 0 => dT_N
  | 1 => dT_B
  | 2 => dT_C
  | 3 => dT_P
  | 4 => dT_E
  | _ => dT_M
def jt_N : Nat → Nat := fun a => match a with
  | 0 => 6
  | 1 => 7
  | 2 => 5
  | 3 => 7
  | 4 => 9
  | _ => 30
def jt_ft : Nat → List Nat := fun a => match a with
  | 0 => [2, 2, 2, 0, 0, 0]
  | 1 => [0, 2, 2, 2, 0, 0, 1]
  | 2 => [2, 2, 2, 0, 0]
  | 3 => [1, 0, 0, 0, 0, 0, 0]
  | 4 => [0, 0, 0, 0, 0, 0, 0, 1, 1]
  | _ => [0, 0, 2, 2, 2, 2, 2, 2, 2, 2, 2, 2, 2, 2, 0, 2, 2, 2, 2, 2, 0, 2, 2, 2, 2, 2, 2, 2, 2, 2]
def jt_cn : Nat → String := fun a => match a with
  | 0 => "DriftNet"
  | 1 => "DriftNet$Boat"
  | 2 => "DriftNet$Cast"
  | 3 => "DriftNet$Packet"
  | 4 => "DriftNet$Entry"
  | 5 => "DriftNetModel"
  | 6 => "DriftNetLaw"
  | _ => "java/lang/Math"
def jt_xn : Nat → String := fun a => match a with
  | 0 => "java/lang/IllegalArgumentException"
  | 1 => "java/lang/IllegalStateException"
  | _ => "java/lang/IndexOutOfBoundsException"
def jt_cl : List vw_C := [(dR_N, dF_N, 6), (dR_B, dF_B, 7), (dR_C, dF_C, 5), (dR_P, dF_P, 7), (dR_E, dF_E, 9), (dR_M, dF_M, 30)]
def jt_ty (dA : Nat → ClassId) : List (ClassId × FieldType) := [(dA 10, .int), (dA 11, .boolean), (dA 12, .long), (dA 13, .object dR_B), (dA 14, .object dR_C), (dA 15, .object dR_P), (dA 16, .object dR_E)]
def jt_tt (a b : Nat) : List Nat := [(jt_ft a).getD b 0, if (jt_F a b).2.2.2 = true then 1 else 0]
/-- words that stay under warmer tables -/
def jm_wk : Cond → Bool
  | .fieldLinkNest .. => true
  | .methodLinkNest .. => true
  | .declares _ => true
  | .castable .. => true
  | .stringRef .. => true
  | .arrayOver (.object _) => true
  | w => goodWord w
def jt_tb : List Cond := lw_tbl.filter jm_wk
def jt_ts : List Cond := [.isRef (.static "java/lang/Throwable" "UNASSIGNED_STACK" "[Ljava/lang/StackTraceElement;"), .isRef (.static "java/lang/Throwable" "SUPPRESSED_SENTINEL" "Ljava/util/List;"), .laysStatic "java/lang/Throwable" "UNASSIGNED_STACK" "[Ljava/lang/StackTraceElement;", .laysStatic "java/lang/Throwable" "SUPPRESSED_SENTINEL" "Ljava/util/List;"]
def jt_nc : List (String × String) := [("java/lang/IllegalStateException", "java/lang/IllegalArgumentException"), ("java/lang/IndexOutOfBoundsException", "java/lang/IllegalArgumentException")]
theorem jt_wk {w : Cond} (h : w ∈ jt_tb) : jm_wk w = true := (List.mem_filter.mp h).2
theorem jt_in {w : Cond} (i : Nat) (h : lw_tbl[i]? = some w) (hk : jm_wk w = true) : w ∈ jt_tb := List.mem_filter.mpr ⟨List.mem_of_getElem? h, hk⟩
theorem jm_tr {w : Cond} (h : jm_wk w = true) {args a' : Array Value} {s U : State} (hW : s.WarmedH U.vm) (hb : w.before args s = true) : w.before a' U = true := by
  unfold jm_wk at h
  split at h
  · exact va_Nw.use rfl (va_Nw.warmF hW (va_tabs rfl rfl hb))
  · exact va_Nw.use rfl (va_Nw.warmM hW (va_tabs rfl rfl hb))
  · exact va_Nw.use rfl (va_Nw.warmD hW (va_tabs rfl rfl hb))
  · exact va_Nw.use rfl (va_Nw.warmC hW (va_tabs rfl rfl hb))
  · exact Cond.stringRef_warmed hW hb
  · exact va_AO.use (va_AO.moved hW.alike (va_AO.of hb))
  · exact word_at hW (good_of_word h) hb
theorem dG_N : ∀ w ∈ u_ws dR_N dF_N 6, jm_wk w = true := by decide +kernel
theorem dG_B : ∀ w ∈ u_ws dR_B dF_B 7, jm_wk w = true := by decide +kernel
theorem dG_C : ∀ w ∈ u_ws dR_C dF_C 5, jm_wk w = true := by decide +kernel
theorem dG_P : ∀ w ∈ u_ws dR_P dF_P 7, jm_wk w = true := by decide +kernel
theorem dG_E : ∀ w ∈ u_ws dR_E dF_E 9, jm_wk w = true := by decide +kernel
theorem dG_M : ∀ w ∈ u_ws dR_M dF_M 30, jm_wk w = true := by decide +kernel
theorem jt_c6 {a : Nat} (h : a < 6) : jt_cl[a]? = some (jt_R a, jt_F a, jt_N a) ∧ (∀ w ∈ u_ws (jt_R a) (jt_F a) (jt_N a), w ∈ jt_tb) ∧ (∀ x, x < jt_N a → ∀ y, y < jt_N a → x ≠ y → (jt_F a x).2.1 ≠ (jt_F a y).2.1) ∧ (∀ k, k < jt_N a → parseFieldDescriptor (jt_F a k).2.2.1 = some (jt_Y a k)) ∧ (jt_ft a).length = jt_N a := by
  match a, h with
  | 0, _ => exact ⟨rfl, fun w hw => List.mem_filter.mpr ⟨dI_N w hw, dG_N w hw⟩, dN_N, dU_N, rfl⟩
  | 1, _ => exact ⟨rfl, fun w hw => List.mem_filter.mpr ⟨dI_B w hw, dG_B w hw⟩, dN_B, dU_B, rfl⟩
  | 2, _ => exact ⟨rfl, fun w hw => List.mem_filter.mpr ⟨dI_C w hw, dG_C w hw⟩, dN_C, dU_C, rfl⟩
  | 3, _ => exact ⟨rfl, fun w hw => List.mem_filter.mpr ⟨dI_P w hw, dG_P w hw⟩, dN_P, dU_P, rfl⟩
  | 4, _ => exact ⟨rfl, fun w hw => List.mem_filter.mpr ⟨dI_E w hw, dG_E w hw⟩, dN_E, dU_E, rfl⟩
  | 5, _ => exact ⟨rfl, fun w hw => List.mem_filter.mpr ⟨dI_M w hw, dG_M w hw⟩, dN_M, dU_M, rfl⟩
def jt_ir : FieldType → Bool
  | .object _ => true
  | .array _ => true
  | _ => false
theorem jt_y0 : ∀ a, a < 6 → ∀ b, b < jt_N a → ((jt_ft a).getD b 0 = 0 → jt_Y a b = .int) ∧ ((jt_ft a).getD b 0 = 1 → jt_Y a b = .boolean) ∧ ((jt_ft a).getD b 0 = 2 → jt_ir (jt_Y a b) = true) ∧ defaultValue (jt_Y a b) = (if (jt_ft a).getD b 0 = 2 then .null else .int 0) := by decide +kernel
theorem jt_yi {a b : Nat} (ha : a < 6) (hb : b < jt_N a) (h : (jt_ft a).getD b 0 = 0) : jt_Y a b = .int := (jt_y0 a ha b hb).1 h
theorem jt_yb {a b : Nat} (ha : a < 6) (hb : b < jt_N a) (h : (jt_ft a).getD b 0 = 1) : jt_Y a b = .boolean := (jt_y0 a ha b hb).2.1 h
theorem jt_yr {a b : Nat} (ha : a < 6) (hb : b < jt_N a) (h : (jt_ft a).getD b 0 = 2) : (∃ n, jt_Y a b = .object n) ∨ ∃ n, jt_Y a b = .array n := by
  have h1 := (jt_y0 a ha b hb).2.2.1 h
  revert h1
  cases jt_Y a b <;> intro h1 <;> first | exact Or.inl ⟨_, rfl⟩ | exact Or.inr ⟨_, rfl⟩ | cases h1
theorem jt_tyc {dA : Nat → ClassId} {k : Nat} (h1 : 13 ≤ k) (h2 : k < 17) : (jt_ty dA)[k - 10]? = some (dA k, .object (jt_R (k - 12))) := by
  obtain rfl | rfl | rfl | rfl : k = 13 ∨ k = 14 ∨ k = 15 ∨ k = 16 := by omega
  all_goals rfl
theorem jt_tyr {dA : Nat → ClassId} {k : Nat} (h1 : 13 ≤ k) (h2 : k < 17) : ∃ C, (jt_ty dA)[k - 10]? = some (dA k, .object C) := ⟨_, jt_tyc h1 h2⟩
theorem jt_tya {dA : Nat → ClassId} {k : Nat} (h1 : 10 ≤ k) (h2 : k < 17) : ∃ ty, (jt_ty dA)[k - 10]? = some (dA k, ty) := by
  obtain rfl | rfl | rfl | rfl | rfl | rfl | rfl : k = 10 ∨ k = 11 ∨ k = 12 ∨ k = 13 ∨ k = 14 ∨ k = 15 ∨ k = 16 := by omega
  all_goals exact ⟨_, rfl⟩
