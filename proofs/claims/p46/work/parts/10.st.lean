theorem pk_J9_min_7cf53 : x_ps yJ9_min_7cf53 cJ9_min_7cf53 2 (some .int) 2 := ⟨⟨co_J9_min_7cf53, ni_J9, by decide, by decide +kernel⟩, sm_J9_min_7cf53⟩
def M_J9_min_7cf53 (x0 : Int32) (x1 : Int32) : Int32 :=
  if x1 < x0 then
  (x1)
  else
  (x0)
set_option maxHeartbeats 4000000 in
set_option maxRecDepth 100000 in
theorem c_J9_min_7cf53 {G : x_G} {l : Launch} {x0 : Int32} {x1 : Int32} {res : Int32} (h : M_J9_min_7cf53 x0 x1 = res) : x_M G l yJ9_min_7cf53 cJ9_min_7cf53 2 (some .int) (0) 0 0 [.int x0, .int x1] ([] : va_W) (x_is (some (.int res)) ([] : va_W)) := by
  unfold M_J9_min_7cf53 at h
  refine x_enter (ini := false) (by decide +kernel) rfl (by decide) rfl (Nat.le_of_ble_eq_true rfl) ?_
  refine x_iload_n dJ9_min_7cf53_0 0 rfl rfl ?_
  refine x_iload_n dJ9_min_7cf53_1 1 rfl rfl ?_
  refine x_icmp_gt 9 dJ9_min_7cf53_2 (by decide) (fun c1 => ?_) (fun c1 => ?_)
  · have h := x_pos c1 h
    refine x_iload_n dJ9_min_7cf53_9 1 rfl rfl ?_
    subst h
    exact x_ireturn dJ9_min_7cf53_10 rfl (x_is.rf _ _)
  · have h := x_neg c1 h
    refine x_iload_n dJ9_min_7cf53_5 0 rfl rfl ?_
    refine x_goto 10 dJ9_min_7cf53_6 (by decide) ?_
    subst h
    exact x_ireturn dJ9_min_7cf53_10 rfl (x_is.rf _ _)
theorem pk_X5_afterFrost : x_ps yX5_afterFrost cX5_afterFrost 3 (some .long) 2 := ⟨⟨co_X5_afterFrost, ni_X5, by decide, by decide +kernel⟩, sm_X5_afterFrost⟩
def M_X5_afterFrost (x0 : Int64) (x2 : Int32) : Int64 :=
  ((x0 &&& (-68719476737 : Int64)) ||| ((x2 &&& (1 : Int32)).toInt64 <<< ((36 : Int32).toInt64 &&& (63 : Int64))))
set_option maxHeartbeats 4000000 in
set_option maxRecDepth 100000 in
theorem c_X5_afterFrost {G : x_G} {l : Launch} {x0 : Int64} {x2 : Int32} {res : Int64} (h : M_X5_afterFrost x0 x2 = res) : x_M G l yX5_afterFrost cX5_afterFrost 3 (some .long) (0) 0 0 [.long x0, .int x2] ([] : va_W) (x_is (some (.long res)) ([] : va_W)) := by
  unfold M_X5_afterFrost at h
  refine x_enter (ini := false) (by decide) rfl (by decide) rfl (Nat.le_of_ble_eq_true rfl) ?_
  refine x_lload_n dX5_afterFrost_0 0 rfl rfl ?_
  refine x_ldc2 dX5_afterFrost_1 kl_X5_41 ?_
  refine x_land dX5_afterFrost_4 ?_
  refine x_iload_n dX5_afterFrost_5 1 rfl rfl ?_
  refine x_iconst 1 dX5_afterFrost_6 (by decide) ?_
  refine x_iand dX5_afterFrost_7 ?_
  refine x_i2l dX5_afterFrost_8 ?_
  refine x_bipush 36 dX5_afterFrost_9 (by decide) ?_
  refine x_lshl dX5_afterFrost_11 ?_
  refine x_lor dX5_afterFrost_12 ?_
  subst h
  exact x_lreturn dX5_afterFrost_13 (x_is.rf _ _)
theorem pk_X5_afterStrain : x_ps yX5_afterStrain cX5_afterStrain 4 (some .long) 3 := ⟨⟨co_X5_afterStrain, ni_X5, by decide, by decide +kernel⟩, sm_X5_afterStrain⟩
def M_X5_afterStrain (x0 : Int64) (x2 : Int32) (x3 : Int32) : Int64 :=
  ((x0 &&& (((15 : Int64) <<< (((4 : Int32) * x2).toInt64 &&& (63 : Int64))) ^^^ (-1 : Int64))) ||| ((x3 &&& (15 : Int32)).toInt64 <<< (((4 : Int32) * x2).toInt64 &&& (63 : Int64))))
set_option maxHeartbeats 4000000 in
set_option maxRecDepth 100000 in
theorem c_X5_afterStrain {G : x_G} {l : Launch} {x0 : Int64} {x2 : Int32} {x3 : Int32} {res : Int64} (h : M_X5_afterStrain x0 x2 x3 = res) : x_M G l yX5_afterStrain cX5_afterStrain 4 (some .long) (0) 0 0 [.long x0, .int x2, .int x3] ([] : va_W) (x_is (some (.long res)) ([] : va_W)) := by
  unfold M_X5_afterStrain at h
  refine x_enter (ini := false) (by decide) rfl (by decide) rfl (Nat.le_of_ble_eq_true rfl) ?_
  refine x_lload_n dX5_afterStrain_0 0 rfl rfl ?_
  refine x_ldc2 dX5_afterStrain_1 kl_X5_29 ?_
  refine x_iconst 4 dX5_afterStrain_4 (by decide) ?_
  refine x_iload_n dX5_afterStrain_5 1 rfl rfl ?_
  refine x_imul dX5_afterStrain_6 ?_
  refine x_lshl dX5_afterStrain_7 ?_
  refine x_ldc2 dX5_afterStrain_8 kl_X5_31 ?_
  refine x_lxor dX5_afterStrain_11 ?_
  refine x_land dX5_afterStrain_12 ?_
  refine x_iload_n dX5_afterStrain_13 2 rfl rfl ?_
  refine x_bipush 15 dX5_afterStrain_14 (by decide) ?_
  refine x_iand dX5_afterStrain_16 ?_
  refine x_i2l dX5_afterStrain_17 ?_
  refine x_iconst 4 dX5_afterStrain_18 (by decide) ?_
  refine x_iload_n dX5_afterStrain_19 1 rfl rfl ?_
  refine x_imul dX5_afterStrain_20 ?_
  refine x_lshl dX5_afterStrain_21 ?_
  refine x_lor dX5_afterStrain_22 ?_
  subst h
  exact x_lreturn dX5_afterStrain_23 (x_is.rf _ _)
theorem pk_X5_strain : x_ps yX5_strain cX5_strain 3 (some .int) 2 := ⟨⟨co_X5_strain, ni_X5, by decide, by decide +kernel⟩, sm_X5_strain⟩
def M_X5_strain (x0 : Int64) (x2 : Int32) : Int32 :=
  ((x0 >>> (((4 : Int32) * x2).toInt64 &&& (63 : Int64))).toInt32 &&& (15 : Int32))
set_option maxHeartbeats 4000000 in
set_option maxRecDepth 100000 in
theorem c_X5_strain {G : x_G} {l : Launch} {x0 : Int64} {x2 : Int32} {res : Int32} (h : M_X5_strain x0 x2 = res) : x_M G l yX5_strain cX5_strain 3 (some .int) (0) 0 0 [.long x0, .int x2] ([] : va_W) (x_is (some (.int res)) ([] : va_W)) := by
  unfold M_X5_strain at h
  refine x_enter (ini := false) (by decide) rfl (by decide) rfl (Nat.le_of_ble_eq_true rfl) ?_
  refine x_lload_n dX5_strain_0 0 rfl rfl ?_
  refine x_iconst 4 dX5_strain_1 (by decide) ?_
  refine x_iload_n dX5_strain_2 1 rfl rfl ?_
  refine x_imul dX5_strain_3 ?_
  refine x_lshr dX5_strain_4 ?_
  refine x_l2i dX5_strain_5 ?_
  refine x_bipush 15 dX5_strain_6 (by decide) ?_
  refine x_iand dX5_strain_8 ?_
  subst h
  exact x_ireturn dX5_strain_9 rfl (x_is.rf _ _)
theorem pk_X5_letGo : x_ps yX5_letGo cX5_letGo 2 (some .int) 1 := ⟨⟨co_X5_letGo, ni_X5, by decide, by decide +kernel⟩, sm_X5_letGo⟩
def M_X5_letGo (x0 : Int64) : Int32 :=
  ((x0 >>> ((24 : Int32).toInt64 &&& (63 : Int64))).toInt32 &&& (63 : Int32))
set_option maxHeartbeats 4000000 in
set_option maxRecDepth 100000 in
theorem c_X5_letGo {G : x_G} {l : Launch} {x0 : Int64} {res : Int32} (h : M_X5_letGo x0 = res) : x_M G l yX5_letGo cX5_letGo 2 (some .int) (0) 0 0 [.long x0] ([] : va_W) (x_is (some (.int res)) ([] : va_W)) := by
  unfold M_X5_letGo at h
  refine x_enter (ini := false) (by decide) rfl (by decide) rfl (Nat.le_of_ble_eq_true rfl) ?_
  refine x_lload_n dX5_letGo_0 0 rfl rfl ?_
  refine x_bipush 24 dX5_letGo_1 (by decide) ?_
  refine x_lshr dX5_letGo_3 ?_
  refine x_l2i dX5_letGo_4 ?_
  refine x_bipush 63 dX5_letGo_5 (by decide) ?_
  refine x_iand dX5_letGo_7 ?_
  subst h
  exact x_ireturn dX5_letGo_8 rfl (x_is.rf _ _)
theorem pk_X5_isLetGo : x_ps yX5_isLetGo cX5_isLetGo 3 (some .boolean) 2 := ⟨⟨co_X5_isLetGo, ni_X5, by decide, by decide +kernel⟩, sm_X5_isLetGo⟩
def M_X5_isLetGo (x0 : Int64) (x2 : Int32) : Int32 :=
  if (((M_X5_letGo x0) >>> (x2 &&& (31 : Int32))) &&& (1 : Int32)) = 0 then
  ((0 : Int32))
  else
  ((1 : Int32))
theorem M_X5_isLetGo_b {x0 : Int64} {x2 : Int32} : narrow .boolean (.int (M_X5_isLetGo x0 x2)) = .int (M_X5_isLetGo x0 x2) := by
  simp only [M_X5_isLetGo]
  repeat' split
  all_goals first | rfl
set_option maxHeartbeats 4000000 in
set_option maxRecDepth 100000 in
theorem c_X5_isLetGo {G : x_G} {l : Launch} {x0 : Int64} {x2 : Int32} {res : Int32} (h : M_X5_isLetGo x0 x2 = res) : x_M G l yX5_isLetGo cX5_isLetGo 3 (some .boolean) (1) 0 0 [.long x0, .int x2] ([] : va_W) (x_is (some (.int res)) ([] : va_W)) := by
  unfold M_X5_isLetGo at h
  refine x_enter (ini := false) (by decide) rfl (by decide) rfl (Nat.le_of_ble_eq_true rfl) ?_
  refine x_lload_n dX5_isLetGo_0 0 rfl rfl ?_
  refine x_cS (As := [.long x0]) (wc := ([] : va_W)) (w1 := ([] : va_W)) (pre := []) (post := ([] : va_W)) (rest := []) (st1 := [.int (M_X5_letGo x0)]) (ws1 := ([] : va_W)) dX5_isLetGo_1 (c_X5_letGo rfl) pk_X5_letGo ml_X5_11 rfl rfl rfl rfl rfl rfl rfl ?_
  refine x_iload_n dX5_isLetGo_4 1 rfl rfl ?_
  refine x_ishr dX5_isLetGo_5 ?_
  refine x_iconst 1 dX5_isLetGo_6 (by decide) ?_
  refine x_iand dX5_isLetGo_7 ?_
  refine x_if_eq 15 dX5_isLetGo_8 (by decide) (fun c1 => ?_) (fun c1 => ?_)
  · have h := x_pos c1 h
    refine x_iconst 0 dX5_isLetGo_15 (by decide) ?_
    subst h
    exact x_ireturn dX5_isLetGo_16 rfl (x_is.rf _ _)
  · have h := x_neg c1 h
    refine x_iconst 1 dX5_isLetGo_11 (by decide) ?_
    refine x_goto 16 dX5_isLetGo_12 (by decide) ?_
    subst h
    exact x_ireturn dX5_isLetGo_16 rfl (x_is.rf _ _)
theorem pk_X5_parted : x_ps yX5_parted cX5_parted 2 (some .int) 1 := ⟨⟨co_X5_parted, ni_X5, by decide, by decide +kernel⟩, sm_X5_parted⟩
def M_X5_parted (x0 : Int64) : Int32 :=
  ((x0 >>> ((30 : Int32).toInt64 &&& (63 : Int64))).toInt32 &&& (63 : Int32))
set_option maxHeartbeats 4000000 in
set_option maxRecDepth 100000 in
theorem c_X5_parted {G : x_G} {l : Launch} {x0 : Int64} {res : Int32} (h : M_X5_parted x0 = res) : x_M G l yX5_parted cX5_parted 2 (some .int) (0) 0 0 [.long x0] ([] : va_W) (x_is (some (.int res)) ([] : va_W)) := by
  unfold M_X5_parted at h
  refine x_enter (ini := false) (by decide) rfl (by decide) rfl (Nat.le_of_ble_eq_true rfl) ?_
  refine x_lload_n dX5_parted_0 0 rfl rfl ?_
  refine x_bipush 30 dX5_parted_1 (by decide) ?_
  refine x_lshr dX5_parted_3 ?_
  refine x_l2i dX5_parted_4 ?_
  refine x_bipush 63 dX5_parted_5 (by decide) ?_
  refine x_iand dX5_parted_7 ?_
  subst h
  exact x_ireturn dX5_parted_8 rfl (x_is.rf _ _)
theorem pk_X5_isParted : x_ps yX5_isParted cX5_isParted 3 (some .boolean) 2 := ⟨⟨co_X5_isParted, ni_X5, by decide, by decide +kernel⟩, sm_X5_isParted⟩
def M_X5_isParted (x0 : Int64) (x2 : Int32) : Int32 :=
  if (((M_X5_parted x0) >>> (x2 &&& (31 : Int32))) &&& (1 : Int32)) = 0 then
  ((0 : Int32))
  else
  ((1 : Int32))
theorem M_X5_isParted_b {x0 : Int64} {x2 : Int32} : narrow .boolean (.int (M_X5_isParted x0 x2)) = .int (M_X5_isParted x0 x2) := by
  simp only [M_X5_isParted]
  repeat' split
  all_goals first | rfl
set_option maxHeartbeats 4000000 in
set_option maxRecDepth 100000 in
theorem c_X5_isParted {G : x_G} {l : Launch} {x0 : Int64} {x2 : Int32} {res : Int32} (h : M_X5_isParted x0 x2 = res) : x_M G l yX5_isParted cX5_isParted 3 (some .boolean) (1) 0 0 [.long x0, .int x2] ([] : va_W) (x_is (some (.int res)) ([] : va_W)) := by
  unfold M_X5_isParted at h
  refine x_enter (ini := false) (by decide) rfl (by decide) rfl (Nat.le_of_ble_eq_true rfl) ?_
  refine x_lload_n dX5_isParted_0 0 rfl rfl ?_
  refine x_cS (As := [.long x0]) (wc := ([] : va_W)) (w1 := ([] : va_W)) (pre := []) (post := ([] : va_W)) (rest := []) (st1 := [.int (M_X5_parted x0)]) (ws1 := ([] : va_W)) dX5_isParted_1 (c_X5_parted rfl) pk_X5_parted ml_X5_15 rfl rfl rfl rfl rfl rfl rfl ?_
  refine x_iload_n dX5_isParted_4 1 rfl rfl ?_
  refine x_ishr dX5_isParted_5 ?_
  refine x_iconst 1 dX5_isParted_6 (by decide) ?_
  refine x_iand dX5_isParted_7 ?_
  refine x_if_eq 15 dX5_isParted_8 (by decide) (fun c1 => ?_) (fun c1 => ?_)
  · have h := x_pos c1 h
    refine x_iconst 0 dX5_isParted_15 (by decide) ?_
    subst h
    exact x_ireturn dX5_isParted_16 rfl (x_is.rf _ _)
  · have h := x_neg c1 h
    refine x_iconst 1 dX5_isParted_11 (by decide) ?_
    refine x_goto 16 dX5_isParted_12 (by decide) ?_
    subst h
    exact x_ireturn dX5_isParted_16 rfl (x_is.rf _ _)
theorem pk_X5_taut : x_ps yX5_taut cX5_taut 4 (some .int) 1 := ⟨⟨co_X5_taut, ni_X5, by decide, by decide +kernel⟩, sm_X5_taut⟩
def M_X5_taut_b24 (k4 : Int64 → Int32 → Int32 → Option (Int32)) (x0 : Int64) (x2 : Int32) (x3 : Int32) : Option (Int32) :=
  k4 x0 x2 (x3 + (1 : Int32))
set_option maxHeartbeats 4000000 in
set_option maxRecDepth 100000 in
theorem w_X5_taut_b24 {G : x_G} {l : Launch} {k4 : Int64 → Int32 → Int32 → Option (Int32)} {res : Int32} (hk4 : ∀ (x0 : Int64) (x2 : Int32) (x3 : Int32), k4 x0 x2 x3 = some res → X G l RX5 cX5_taut 4 (x_R 1 0 0) (x_Cm G (some .int) false (x_is (some (.int res)) ([] : va_W)) 0 0) 0 0 4 [(0, .long x0), (2, .int x2), (3, .int x3)] [] ([] : va_W)) (x0 : Int64) (x2 : Int32) (x3 : Int32) (h : M_X5_taut_b24 k4 x0 x2 x3 = some res) : X G l RX5 cX5_taut 4 (x_R 1 0 0) (x_Cm G (some .int) false (x_is (some (.int res)) ([] : va_W)) 0 0) 0 0 24 [(0, .long x0), (2, .int x2), (3, .int x3)] [] ([] : va_W) := by
  unfold M_X5_taut_b24 at h
  refine x_iinc (j := 2) (1 : Int32) [(3, .int (x3 + (1 : Int32))), (0, .long x0), (2, .int x2)] dX5_taut_24 (by decide) rfl (by decide) rfl ?_
  refine x_goto 4 dX5_taut_27 (by decide) ?_
  refine x_lv [1, 2, 0] rfl ?_
  exact hk4 _ _ _ h
def M_X5_taut_b4 : Nat → Int64 → Int32 → Int32 → Option (Int32)
  | 0, _, _, _ => none
  | n + 1, x0, x2, x3 =>
    if (6 : Int32) ≤ x3 then
    (some (x2))
    else
    (if (M_X5_strain x0 x3) ≤ 0 then
    (M_X5_taut_b24 (fun (x0' : Int64) (x2' : Int32) (x3' : Int32) => M_X5_taut_b4 n x0' x2' x3') x0 x2 x3)
    else
    (M_X5_taut_b24 (fun (x0' : Int64) (x2' : Int32) (x3' : Int32) => M_X5_taut_b4 n x0' x2' x3') x0 (x2 ||| ((1 : Int32) <<< (x3 &&& (31 : Int32)))) x3))
set_option maxHeartbeats 4000000 in
set_option maxRecDepth 100000 in
theorem w_X5_taut_b4 {G : x_G} {l : Launch} {res : Int32} : ∀ (n : Nat) (x0 : Int64) (x2 : Int32) (x3 : Int32), M_X5_taut_b4 n x0 x2 x3 = some res → X G l RX5 cX5_taut 4 (x_R 1 0 0) (x_Cm G (some .int) false (x_is (some (.int res)) ([] : va_W)) 0 0) 0 0 4 [(0, .long x0), (2, .int x2), (3, .int x3)] [] ([] : va_W) := by
  intro n
  induction n with
  | zero =>
    intro _ _ _ h
    cases h
  | succ n ih =>
    intro x0 x2 x3 h
    rw [M_X5_taut_b4] at h
    refine x_iload_n dX5_taut_4 2 rfl rfl ?_
    refine x_bipush 6 dX5_taut_5 (by decide) ?_
    refine x_icmp_ge 30 dX5_taut_7 (by decide) (fun c1 => ?_) (fun c1 => ?_)
    · have h := x_pos c1 h
      refine x_iload_n dX5_taut_30 1 rfl rfl ?_
      cases h
      exact x_ireturn dX5_taut_31 rfl (x_is.rf _ _)
    · have h := x_neg c1 h
      refine x_lload_n dX5_taut_10 0 rfl rfl ?_
      refine x_iload_n dX5_taut_11 2 rfl rfl ?_
      refine x_cS (As := [.long x0, .int x3]) (wc := ([] : va_W)) (w1 := ([] : va_W)) (pre := []) (post := ([] : va_W)) (rest := []) (st1 := [.int (M_X5_strain x0 x3)]) (ws1 := ([] : va_W)) dX5_taut_12 (c_X5_strain rfl) pk_X5_strain ml_X5_25 rfl rfl rfl rfl rfl rfl rfl ?_
      refine x_if_le 24 dX5_taut_15 (by decide) (fun c2 => ?_) (fun c2 => ?_)
      · have h := x_pos c2 h
        exact w_X5_taut_b24 (fun x0' x2' x3' h => ih x0' x2' x3' h) _ _ _ h
      · have h := x_neg c2 h
        refine x_iload_n dX5_taut_18 1 rfl rfl ?_
        refine x_iconst 1 dX5_taut_19 (by decide) ?_
        refine x_iload_n dX5_taut_20 2 rfl rfl ?_
        refine x_ishl dX5_taut_21 ?_
        refine x_ior dX5_taut_22 ?_
        refine x_istore_n [(2, .int (x2 ||| ((1 : Int32) <<< (x3 &&& (31 : Int32))))), (0, .long x0), (3, .int x3)] dX5_taut_23 rfl (by decide) rfl ?_
        refine x_lv [1, 0, 2] rfl ?_
        exact w_X5_taut_b24 (fun x0' x2' x3' h => ih x0' x2' x3' h) _ _ _ h
def M_X5_taut (x0 : Int64) : Option (Int32) :=
  M_X5_taut_b4 x_fuel x0 (0 : Int32) (0 : Int32)
set_option maxHeartbeats 4000000 in
set_option maxRecDepth 100000 in
theorem c_X5_taut {G : x_G} {l : Launch} {x0 : Int64} {res : Int32} (h : M_X5_taut x0 = some res) : x_M G l yX5_taut cX5_taut 4 (some .int) (1) 0 0 [.long x0] ([] : va_W) (x_is (some (.int res)) ([] : va_W)) := by
  unfold M_X5_taut at h
  refine x_enter (ini := false) (by decide) rfl (by decide) rfl (Nat.le_of_ble_eq_true rfl) ?_
  refine x_iconst 0 dX5_taut_0 (by decide) ?_
  refine x_istore_n [(2, .int (0 : Int32)), (0, .long x0)] dX5_taut_1 rfl (by decide) rfl ?_
  refine x_iconst 0 dX5_taut_2 (by decide) ?_
  refine x_istore_n [(3, .int (0 : Int32)), (2, .int (0 : Int32)), (0, .long x0)] dX5_taut_3 rfl (by decide) rfl ?_
  refine x_lv [2, 1, 0] rfl ?_
  exact w_X5_taut_b4  _ _ _ _ h
theorem pk_J6_bitCount_0f7a4 : x_ps yJ6_bitCount_0f7a4 cJ6_bitCount_0f7a4 1 (some .int) 1 := ⟨⟨co_J6_bitCount_0f7a4, ni_J6, by decide, by decide +kernel⟩, sm_J6_bitCount_0f7a4⟩
def M_J6_bitCount_0f7a4_b48 (x0 : Int32) : Int32 :=
  (x0 &&& (63 : Int32))
set_option maxHeartbeats 4000000 in
set_option maxRecDepth 100000 in
theorem w_J6_bitCount_0f7a4_b48 {G : x_G} {l : Launch} {res : Int32} (x0 : Int32) (h : M_J6_bitCount_0f7a4_b48 x0 = res) : X G l RJ6 cJ6_bitCount_0f7a4 1 (x_R 0 0 0) (x_Cm G (some .int) false (x_is (some (.int res)) ([] : va_W)) 0 0) 0 0 48 [(0, .int x0)] [] ([] : va_W) := by
  unfold M_J6_bitCount_0f7a4_b48 at h
  refine x_iload_n dJ6_bitCount_0f7a4_48 0 rfl rfl ?_
  refine x_bipush 63 dJ6_bitCount_0f7a4_49 (by decide) ?_
  refine x_iand dJ6_bitCount_0f7a4_51 ?_
  subst h
  exact x_ireturn dJ6_bitCount_0f7a4_52 rfl (x_is.rf _ _)
def M_J6_bitCount_0f7a4_b34 (x0 : Int32) : Int32 :=
  M_J6_bitCount_0f7a4_b48 ((x0 + (x0.toUInt32 >>> ((8 : Int32).toUInt32 &&& Int32.toUInt32 31)).toInt32) + ((x0 + (x0.toUInt32 >>> ((8 : Int32).toUInt32 &&& Int32.toUInt32 31)).toInt32).toUInt32 >>> ((16 : Int32).toUInt32 &&& Int32.toUInt32 31)).toInt32)
set_option maxHeartbeats 4000000 in
set_option maxRecDepth 100000 in
theorem w_J6_bitCount_0f7a4_b34 {G : x_G} {l : Launch} {res : Int32} (x0 : Int32) (h : M_J6_bitCount_0f7a4_b34 x0 = res) : X G l RJ6 cJ6_bitCount_0f7a4 1 (x_R 0 0 0) (x_Cm G (some .int) false (x_is (some (.int res)) ([] : va_W)) 0 0) 0 0 34 [(0, .int x0)] [] ([] : va_W) := by
  unfold M_J6_bitCount_0f7a4_b34 at h
  refine x_iload_n dJ6_bitCount_0f7a4_34 0 rfl rfl ?_
  refine x_iload_n dJ6_bitCount_0f7a4_35 0 rfl rfl ?_
  refine x_bipush 8 dJ6_bitCount_0f7a4_36 (by decide) ?_
  refine x_iushr dJ6_bitCount_0f7a4_38 ?_
  refine x_iadd dJ6_bitCount_0f7a4_39 ?_
  refine x_istore_n [(0, .int (x0 + (x0.toUInt32 >>> ((8 : Int32).toUInt32 &&& Int32.toUInt32 31)).toInt32))] dJ6_bitCount_0f7a4_40 rfl (by decide) rfl ?_
  refine x_iload_n dJ6_bitCount_0f7a4_41 0 rfl rfl ?_
  refine x_iload_n dJ6_bitCount_0f7a4_42 0 rfl rfl ?_
  refine x_bipush 16 dJ6_bitCount_0f7a4_43 (by decide) ?_
  refine x_iushr dJ6_bitCount_0f7a4_45 ?_
  refine x_iadd dJ6_bitCount_0f7a4_46 ?_
  refine x_istore_n [(0, .int ((x0 + (x0.toUInt32 >>> ((8 : Int32).toUInt32 &&& Int32.toUInt32 31)).toInt32) + ((x0 + (x0.toUInt32 >>> ((8 : Int32).toUInt32 &&& Int32.toUInt32 31)).toInt32).toUInt32 >>> ((16 : Int32).toUInt32 &&& Int32.toUInt32 31)).toInt32))] dJ6_bitCount_0f7a4_47 rfl (by decide) rfl ?_
  exact w_J6_bitCount_0f7a4_b48  _ h
def M_J6_bitCount_0f7a4_b24 (x0 : Int32) : Int32 :=
  M_J6_bitCount_0f7a4_b34 ((x0 + (x0.toUInt32 >>> ((4 : Int32).toUInt32 &&& Int32.toUInt32 31)).toInt32) &&& (252645135 : Int32))
set_option maxHeartbeats 4000000 in
set_option maxRecDepth 100000 in
theorem w_J6_bitCount_0f7a4_b24 {G : x_G} {l : Launch} {res : Int32} (x0 : Int32) (h : M_J6_bitCount_0f7a4_b24 x0 = res) : X G l RJ6 cJ6_bitCount_0f7a4 1 (x_R 0 0 0) (x_Cm G (some .int) false (x_is (some (.int res)) ([] : va_W)) 0 0) 0 0 24 [(0, .int x0)] [] ([] : va_W) := by
  unfold M_J6_bitCount_0f7a4_b24 at h
  refine x_iload_n dJ6_bitCount_0f7a4_24 0 rfl rfl ?_
  refine x_iload_n dJ6_bitCount_0f7a4_25 0 rfl rfl ?_
  refine x_iconst 4 dJ6_bitCount_0f7a4_26 (by decide) ?_
  refine x_iushr dJ6_bitCount_0f7a4_27 ?_
  refine x_iadd dJ6_bitCount_0f7a4_28 ?_
  refine x_ldcw dJ6_bitCount_0f7a4_29 kc_J6_267 ?_
  refine x_iand dJ6_bitCount_0f7a4_32 ?_
  refine x_istore_n [(0, .int ((x0 + (x0.toUInt32 >>> ((4 : Int32).toUInt32 &&& Int32.toUInt32 31)).toInt32) &&& (252645135 : Int32)))] dJ6_bitCount_0f7a4_33 rfl (by decide) rfl ?_
  exact w_J6_bitCount_0f7a4_b34  _ h
def M_J6_bitCount_0f7a4_b10 (x0 : Int32) : Int32 :=
  M_J6_bitCount_0f7a4_b24 ((x0 &&& (858993459 : Int32)) + ((x0.toUInt32 >>> ((2 : Int32).toUInt32 &&& Int32.toUInt32 31)).toInt32 &&& (858993459 : Int32)))
set_option maxHeartbeats 4000000 in
set_option maxRecDepth 100000 in
theorem w_J6_bitCount_0f7a4_b10 {G : x_G} {l : Launch} {res : Int32} (x0 : Int32) (h : M_J6_bitCount_0f7a4_b10 x0 = res) : X G l RJ6 cJ6_bitCount_0f7a4 1 (x_R 0 0 0) (x_Cm G (some .int) false (x_is (some (.int res)) ([] : va_W)) 0 0) 0 0 10 [(0, .int x0)] [] ([] : va_W) := by
  unfold M_J6_bitCount_0f7a4_b10 at h
  refine x_iload_n dJ6_bitCount_0f7a4_10 0 rfl rfl ?_
  refine x_ldcw dJ6_bitCount_0f7a4_11 kc_J6_266 ?_
  refine x_iand dJ6_bitCount_0f7a4_14 ?_
  refine x_iload_n dJ6_bitCount_0f7a4_15 0 rfl rfl ?_
  refine x_iconst 2 dJ6_bitCount_0f7a4_16 (by decide) ?_
  refine x_iushr dJ6_bitCount_0f7a4_17 ?_
  refine x_ldcw dJ6_bitCount_0f7a4_18 kc_J6_266 ?_
  refine x_iand dJ6_bitCount_0f7a4_21 ?_
  refine x_iadd dJ6_bitCount_0f7a4_22 ?_
  refine x_istore_n [(0, .int ((x0 &&& (858993459 : Int32)) + ((x0.toUInt32 >>> ((2 : Int32).toUInt32 &&& Int32.toUInt32 31)).toInt32 &&& (858993459 : Int32))))] dJ6_bitCount_0f7a4_23 rfl (by decide) rfl ?_
  exact w_J6_bitCount_0f7a4_b24  _ h
def M_J6_bitCount_0f7a4 (x0 : Int32) : Int32 :=
  M_J6_bitCount_0f7a4_b10 (x0 - ((x0.toUInt32 >>> ((1 : Int32).toUInt32 &&& Int32.toUInt32 31)).toInt32 &&& (1431655765 : Int32)))
set_option maxHeartbeats 4000000 in
set_option maxRecDepth 100000 in
theorem c_J6_bitCount_0f7a4 {G : x_G} {l : Launch} {x0 : Int32} {res : Int32} (h : M_J6_bitCount_0f7a4 x0 = res) : x_M G l yJ6_bitCount_0f7a4 cJ6_bitCount_0f7a4 1 (some .int) (0) 0 0 [.int x0] ([] : va_W) (x_is (some (.int res)) ([] : va_W)) := by
  unfold M_J6_bitCount_0f7a4 at h
  refine x_enter (ini := false) (by decide +kernel) rfl (by decide) rfl (Nat.le_of_ble_eq_true rfl) ?_
  refine x_iload_n dJ6_bitCount_0f7a4_0 0 rfl rfl ?_
  refine x_iload_n dJ6_bitCount_0f7a4_1 0 rfl rfl ?_
  refine x_iconst 1 dJ6_bitCount_0f7a4_2 (by decide) ?_
  refine x_iushr dJ6_bitCount_0f7a4_3 ?_
  refine x_ldcw dJ6_bitCount_0f7a4_4 kc_J6_265 ?_
  refine x_iand dJ6_bitCount_0f7a4_7 ?_
  refine x_isub dJ6_bitCount_0f7a4_8 ?_
  refine x_istore_n [(0, .int (x0 - ((x0.toUInt32 >>> ((1 : Int32).toUInt32 &&& Int32.toUInt32 31)).toInt32 &&& (1431655765 : Int32))))] dJ6_bitCount_0f7a4_9 rfl (by decide) rfl ?_
  exact w_J6_bitCount_0f7a4_b10  _ h
theorem pk_X5_afterLetGo : x_ps yX5_afterLetGo cX5_afterLetGo 3 (some .long) 2 := ⟨⟨co_X5_afterLetGo, ni_X5, by decide, by decide +kernel⟩, sm_X5_afterLetGo⟩
def M_X5_afterLetGo (x0 : Int64) (x2 : Int32) : Int64 :=
  ((M_X5_afterStrain x0 x2 (0 : Int32)) ||| ((1 : Int64) <<< (((24 : Int32) + x2).toInt64 &&& (63 : Int64))))
set_option maxHeartbeats 4000000 in
set_option maxRecDepth 100000 in
theorem c_X5_afterLetGo {G : x_G} {l : Launch} {x0 : Int64} {x2 : Int32} {res : Int64} (h : M_X5_afterLetGo x0 x2 = res) : x_M G l yX5_afterLetGo cX5_afterLetGo 3 (some .long) (1) 0 0 [.long x0, .int x2] ([] : va_W) (x_is (some (.long res)) ([] : va_W)) := by
  unfold M_X5_afterLetGo at h
  refine x_enter (ini := false) (by decide) rfl (by decide) rfl (Nat.le_of_ble_eq_true rfl) ?_
  refine x_lload_n dX5_afterLetGo_0 0 rfl rfl ?_
  refine x_iload_n dX5_afterLetGo_1 1 rfl rfl ?_
  refine x_iconst 0 dX5_afterLetGo_2 (by decide) ?_
  refine x_cS (As := [.long x0, .int x2, .int (0 : Int32)]) (wc := ([] : va_W)) (w1 := ([] : va_W)) (pre := []) (post := ([] : va_W)) (rest := []) (st1 := [.long (M_X5_afterStrain x0 x2 (0 : Int32))]) (ws1 := ([] : va_W)) dX5_afterLetGo_3 (c_X5_afterStrain rfl) pk_X5_afterStrain ml_X5_33 rfl rfl rfl rfl rfl rfl rfl ?_
  refine x_lconst 1 dX5_afterLetGo_6 (by decide) ?_
  refine x_bipush 24 dX5_afterLetGo_7 (by decide) ?_
  refine x_iload_n dX5_afterLetGo_9 1 rfl rfl ?_
  refine x_iadd dX5_afterLetGo_10 ?_
  refine x_lshl dX5_afterLetGo_11 ?_
  refine x_lor dX5_afterLetGo_12 ?_
  subst h
  exact x_lreturn dX5_afterLetGo_13 (x_is.rf _ _)
theorem pk_X5_afterMadeOff : x_ps yX5_afterMadeOff cX5_afterMadeOff 3 (some .long) 2 := ⟨⟨co_X5_afterMadeOff, ni_X5, by decide, by decide +kernel⟩, sm_X5_afterMadeOff⟩
def M_X5_afterMadeOff (x0 : Int64) (x2 : Int32) : Int64 :=
  (x0 &&& (((1 : Int64) <<< (((24 : Int32) + x2).toInt64 &&& (63 : Int64))) ^^^ (-1 : Int64)))
set_option maxHeartbeats 4000000 in
set_option maxRecDepth 100000 in
theorem c_X5_afterMadeOff {G : x_G} {l : Launch} {x0 : Int64} {x2 : Int32} {res : Int64} (h : M_X5_afterMadeOff x0 x2 = res) : x_M G l yX5_afterMadeOff cX5_afterMadeOff 3 (some .long) (0) 0 0 [.long x0, .int x2] ([] : va_W) (x_is (some (.long res)) ([] : va_W)) := by
  unfold M_X5_afterMadeOff at h
  refine x_enter (ini := false) (by decide) rfl (by decide) rfl (Nat.le_of_ble_eq_true rfl) ?_
  refine x_lload_n dX5_afterMadeOff_0 0 rfl rfl ?_
  refine x_lconst 1 dX5_afterMadeOff_1 (by decide) ?_
  refine x_bipush 24 dX5_afterMadeOff_2 (by decide) ?_
  refine x_iload_n dX5_afterMadeOff_4 1 rfl rfl ?_
  refine x_iadd dX5_afterMadeOff_5 ?_
  refine x_lshl dX5_afterMadeOff_6 ?_
  refine x_ldc2 dX5_afterMadeOff_7 kl_X5_31 ?_
  refine x_lxor dX5_afterMadeOff_10 ?_
  refine x_land dX5_afterMadeOff_11 ?_
  subst h
  exact x_lreturn dX5_afterMadeOff_12 (x_is.rf _ _)
theorem pk_X5_afterSpliced : x_ps yX5_afterSpliced cX5_afterSpliced 3 (some .long) 2 := ⟨⟨co_X5_afterSpliced, ni_X5, by decide, by decide +kernel⟩, sm_X5_afterSpliced⟩
def M_X5_afterSpliced (x0 : Int64) (x2 : Int32) : Int64 :=
  ((M_X5_afterMadeOff (M_X5_afterStrain x0 x2 (0 : Int32)) x2) &&& (((1 : Int64) <<< (((30 : Int32) + x2).toInt64 &&& (63 : Int64))) ^^^ (-1 : Int64)))
set_option maxHeartbeats 4000000 in
set_option maxRecDepth 100000 in
theorem c_X5_afterSpliced {G : x_G} {l : Launch} {x0 : Int64} {x2 : Int32} {res : Int64} (h : M_X5_afterSpliced x0 x2 = res) : x_M G l yX5_afterSpliced cX5_afterSpliced 3 (some .long) (1) 0 0 [.long x0, .int x2] ([] : va_W) (x_is (some (.long res)) ([] : va_W)) := by
  unfold M_X5_afterSpliced at h
  refine x_enter (ini := false) (by decide) rfl (by decide) rfl (Nat.le_of_ble_eq_true rfl) ?_
  refine x_lload_n dX5_afterSpliced_0 0 rfl rfl ?_
  refine x_iload_n dX5_afterSpliced_1 1 rfl rfl ?_
  refine x_iconst 0 dX5_afterSpliced_2 (by decide) ?_
  refine x_cS (As := [.long x0, .int x2, .int (0 : Int32)]) (wc := ([] : va_W)) (w1 := ([] : va_W)) (pre := []) (post := ([] : va_W)) (rest := []) (st1 := [.long (M_X5_afterStrain x0 x2 (0 : Int32))]) (ws1 := ([] : va_W)) dX5_afterSpliced_3 (c_X5_afterStrain rfl) pk_X5_afterStrain ml_X5_33 rfl rfl rfl rfl rfl rfl rfl ?_
  refine x_iload_n dX5_afterSpliced_6 1 rfl rfl ?_
  refine x_cS (As := [.long (M_X5_afterStrain x0 x2 (0 : Int32)), .int x2]) (wc := ([] : va_W)) (w1 := ([] : va_W)) (pre := []) (post := ([] : va_W)) (rest := []) (st1 := [.long (M_X5_afterMadeOff (M_X5_afterStrain x0 x2 (0 : Int32)) x2)]) (ws1 := ([] : va_W)) dX5_afterSpliced_7 (c_X5_afterMadeOff rfl) pk_X5_afterMadeOff ml_X5_37 rfl rfl rfl rfl rfl rfl rfl ?_
  refine x_lconst 1 dX5_afterSpliced_10 (by decide) ?_
  refine x_bipush 30 dX5_afterSpliced_11 (by decide) ?_
  refine x_iload_n dX5_afterSpliced_13 1 rfl rfl ?_
  refine x_iadd dX5_afterSpliced_14 ?_
  refine x_lshl dX5_afterSpliced_15 ?_
  refine x_ldc2 dX5_afterSpliced_16 kl_X5_31 ?_
  refine x_lxor dX5_afterSpliced_19 ?_
  refine x_land dX5_afterSpliced_20 ?_
  subst h
  exact x_lreturn dX5_afterSpliced_21 (x_is.rf _ _)
theorem pk_X5_frostIn : x_ps yX5_frostIn cX5_frostIn 2 (some .int) 1 := ⟨⟨co_X5_frostIn, ni_X5, by decide, by decide +kernel⟩, sm_X5_frostIn⟩
def M_X5_frostIn (x0 : Int64) : Int32 :=
  ((x0 >>> ((36 : Int32).toInt64 &&& (63 : Int64))).toInt32 &&& (1 : Int32))
set_option maxHeartbeats 4000000 in
set_option maxRecDepth 100000 in
theorem c_X5_frostIn {G : x_G} {l : Launch} {x0 : Int64} {res : Int32} (h : M_X5_frostIn x0 = res) : x_M G l yX5_frostIn cX5_frostIn 2 (some .int) (0) 0 0 [.long x0] ([] : va_W) (x_is (some (.int res)) ([] : va_W)) := by
  unfold M_X5_frostIn at h
  refine x_enter (ini := false) (by decide) rfl (by decide) rfl (Nat.le_of_ble_eq_true rfl) ?_
  refine x_lload_n dX5_frostIn_0 0 rfl rfl ?_
  refine x_bipush 36 dX5_frostIn_1 (by decide) ?_
  refine x_lshr dX5_frostIn_3 ?_
  refine x_l2i dX5_frostIn_4 ?_
  refine x_iconst 1 dX5_frostIn_5 (by decide) ?_
  refine x_iand dX5_frostIn_6 ?_
  subst h
  exact x_ireturn dX5_frostIn_7 rfl (x_is.rf _ _)
theorem pk_X5_isFast : x_ps yX5_isFast cX5_isFast 3 (some .boolean) 2 := ⟨⟨co_X5_isFast, ni_X5, by decide, by decide +kernel⟩, sm_X5_isFast⟩
def M_X5_isFast (x0 : Int64) (x2 : Int32) : Int32 :=
  if (M_X5_isLetGo x0 x2) = 0 then
  (if (M_X5_isParted x0 x2) = 0 then
  ((1 : Int32))
  else
  ((0 : Int32)))
  else
  ((0 : Int32))
theorem M_X5_isFast_b {x0 : Int64} {x2 : Int32} : narrow .boolean (.int (M_X5_isFast x0 x2)) = .int (M_X5_isFast x0 x2) := by
  simp only [M_X5_isFast]
  repeat' split
  all_goals first | rfl | exact M_X5_isLetGo_b | exact M_X5_isParted_b
set_option maxHeartbeats 4000000 in
set_option maxRecDepth 100000 in
theorem c_X5_isFast {G : x_G} {l : Launch} {x0 : Int64} {x2 : Int32} {res : Int32} (h : M_X5_isFast x0 x2 = res) : x_M G l yX5_isFast cX5_isFast 3 (some .boolean) (2) 0 0 [.long x0, .int x2] ([] : va_W) (x_is (some (.int res)) ([] : va_W)) := by
  unfold M_X5_isFast at h
  refine x_enter (ini := false) (by decide) rfl (by decide) rfl (Nat.le_of_ble_eq_true rfl) ?_
  refine x_lload_n dX5_isFast_0 0 rfl rfl ?_
  refine x_iload_n dX5_isFast_1 1 rfl rfl ?_
  refine x_cS (As := [.long x0, .int x2]) (wc := ([] : va_W)) (w1 := ([] : va_W)) (pre := []) (post := ([] : va_W)) (rest := []) (st1 := [.int (M_X5_isLetGo x0 x2)]) (ws1 := ([] : va_W)) dX5_isFast_2 (c_X5_isLetGo rfl) pk_X5_isLetGo ml_X5_18 rfl rfl rfl rfl rfl rfl rfl ?_
  refine x_if_ne 20 dX5_isFast_5 (by decide) (fun c1 => ?_) (fun c1 => ?_)
  · have h := x_neg c1 h
    refine x_iconst 0 dX5_isFast_20 (by decide) ?_
    subst h
    exact x_ireturn dX5_isFast_21 rfl (x_is.rf _ _)
  · have h := x_pos c1 h
    refine x_lload_n dX5_isFast_8 0 rfl rfl ?_
    refine x_iload_n dX5_isFast_9 1 rfl rfl ?_
    refine x_cS (As := [.long x0, .int x2]) (wc := ([] : va_W)) (w1 := ([] : va_W)) (pre := []) (post := ([] : va_W)) (rest := []) (st1 := [.int (M_X5_isParted x0 x2)]) (ws1 := ([] : va_W)) dX5_isFast_10 (c_X5_isParted rfl) pk_X5_isParted ml_X5_22 rfl rfl rfl rfl rfl rfl rfl ?_
    refine x_if_ne 20 dX5_isFast_13 (by decide) (fun c2 => ?_) (fun c2 => ?_)
    · have h := x_neg c2 h
      refine x_iconst 0 dX5_isFast_20 (by decide) ?_
      subst h
      exact x_ireturn dX5_isFast_21 rfl (x_is.rf _ _)
    · have h := x_pos c2 h
      refine x_iconst 1 dX5_isFast_16 (by decide) ?_
      refine x_goto 21 dX5_isFast_17 (by decide) ?_
      subst h
      exact x_ireturn dX5_isFast_21 rfl (x_is.rf _ _)
theorem pk_J9_max_7cf53 : x_ps yJ9_max_7cf53 cJ9_max_7cf53 2 (some .int) 2 := ⟨⟨co_J9_max_7cf53, ni_J9, by decide, by decide +kernel⟩, sm_J9_max_7cf53⟩
def M_J9_max_7cf53 (x0 : Int32) (x1 : Int32) : Int32 :=
  if x0 < x1 then
  (x1)
  else
  (x0)
set_option maxHeartbeats 4000000 in
set_option maxRecDepth 100000 in
theorem c_J9_max_7cf53 {G : x_G} {l : Launch} {x0 : Int32} {x1 : Int32} {res : Int32} (h : M_J9_max_7cf53 x0 x1 = res) : x_M G l yJ9_max_7cf53 cJ9_max_7cf53 2 (some .int) (0) 0 0 [.int x0, .int x1] ([] : va_W) (x_is (some (.int res)) ([] : va_W)) := by
  unfold M_J9_max_7cf53 at h
  refine x_enter (ini := false) (by decide +kernel) rfl (by decide) rfl (Nat.le_of_ble_eq_true rfl) ?_
  refine x_iload_n dJ9_max_7cf53_0 0 rfl rfl ?_
  refine x_iload_n dJ9_max_7cf53_1 1 rfl rfl ?_
  refine x_icmp_lt 9 dJ9_max_7cf53_2 (by decide) (fun c1 => ?_) (fun c1 => ?_)
  · have h := x_pos c1 h
    refine x_iload_n dJ9_max_7cf53_9 1 rfl rfl ?_
    subst h
    exact x_ireturn dJ9_max_7cf53_10 rfl (x_is.rf _ _)
  · have h := x_neg c1 h
    refine x_iload_n dJ9_max_7cf53_5 0 rfl rfl ?_
    refine x_goto 10 dJ9_max_7cf53_6 (by decide) ?_
    subst h
    exact x_ireturn dJ9_max_7cf53_10 rfl (x_is.rf _ _)
theorem pk_X5_afterParted : x_ps yX5_afterParted cX5_afterParted 6 (some .long) 2 := ⟨⟨co_X5_afterParted, ni_X5, by decide, by decide +kernel⟩, sm_X5_afterParted⟩
def M_X5_afterParted_b37 (k5 : Int32 → Int64 → Int32 → Option (Int64)) (x2 : Int32) (x3 : Int64) (x5 : Int32) : Option (Int64) :=
  k5 x2 x3 (x5 + (1 : Int32))
set_option maxHeartbeats 4000000 in
set_option maxRecDepth 100000 in
theorem w_X5_afterParted_b37 {G : x_G} {l : Launch} {k5 : Int32 → Int64 → Int32 → Option (Int64)} {res : Int64} (hk5 : ∀ (x2 : Int32) (x3 : Int64) (x5 : Int32), k5 x2 x3 x5 = some res → X G l RX5 cX5_afterParted 6 (x_R 1 0 0) (x_Cm G (some .long) false (x_is (some (.long res)) ([] : va_W)) 0 0) 0 0 5 [(2, .int x2), (3, .long x3), (5, .int x5)] [] ([] : va_W)) (x2 : Int32) (x3 : Int64) (x5 : Int32) (h : M_X5_afterParted_b37 k5 x2 x3 x5 = some res) : X G l RX5 cX5_afterParted 6 (x_R 1 0 0) (x_Cm G (some .long) false (x_is (some (.long res)) ([] : va_W)) 0 0) 0 0 37 [(2, .int x2), (3, .long x3), (5, .int x5)] [] ([] : va_W) := by
  unfold M_X5_afterParted_b37 at h
  refine x_iinc (j := 2) (1 : Int32) [(5, .int (x5 + (1 : Int32))), (2, .int x2), (3, .long x3)] dX5_afterParted_37 (by decide) rfl (by decide) rfl ?_
  refine x_goto 5 dX5_afterParted_40 (by decide) ?_
  refine x_lv [1, 2, 0] rfl ?_
  exact hk5 _ _ _ h
def M_X5_afterParted_b5 : Nat → Int32 → Int64 → Int32 → Option (Int64)
  | 0, _, _, _ => none
  | n + 1, x2, x3, x5 =>
    if (6 : Int32) ≤ x5 then
    (some (x3))
    else
    (if ((x2 >>> (x5 &&& (31 : Int32))) &&& (1 : Int32)) = 0 then
    (M_X5_afterParted_b37 (fun (x2' : Int32) (x3' : Int64) (x5' : Int32) => M_X5_afterParted_b5 n x2' x3' x5') x2 x3 x5)
    else
    (M_X5_afterParted_b37 (fun (x2' : Int32) (x3' : Int64) (x5' : Int32) => M_X5_afterParted_b5 n x2' x3' x5') x2 ((M_X5_afterStrain x3 x5 (0 : Int32)) ||| ((1 : Int64) <<< (((30 : Int32) + x5).toInt64 &&& (63 : Int64)))) x5))
set_option maxHeartbeats 4000000 in
set_option maxRecDepth 100000 in
theorem w_X5_afterParted_b5 {G : x_G} {l : Launch} {res : Int64} : ∀ (n : Nat) (x2 : Int32) (x3 : Int64) (x5 : Int32), M_X5_afterParted_b5 n x2 x3 x5 = some res → X G l RX5 cX5_afterParted 6 (x_R 1 0 0) (x_Cm G (some .long) false (x_is (some (.long res)) ([] : va_W)) 0 0) 0 0 5 [(2, .int x2), (3, .long x3), (5, .int x5)] [] ([] : va_W) := by
  intro n
  induction n with
  | zero =>
    intro _ _ _ h
    cases h
  | succ n ih =>
    intro x2 x3 x5 h
    rw [M_X5_afterParted_b5] at h
    refine x_iload dX5_afterParted_5 2 rfl ?_
    refine x_bipush 6 dX5_afterParted_7 (by decide) ?_
    refine x_icmp_ge 43 dX5_afterParted_9 (by decide) (fun c1 => ?_) (fun c1 => ?_)
    · have h := x_pos c1 h
      refine x_lload_n dX5_afterParted_43 1 rfl rfl ?_
      cases h
      exact x_lreturn dX5_afterParted_44 (x_is.rf _ _)
    · have h := x_neg c1 h
      refine x_iload_n dX5_afterParted_12 0 rfl rfl ?_
      refine x_iload dX5_afterParted_13 2 rfl ?_
      refine x_ishr dX5_afterParted_15 ?_
      refine x_iconst 1 dX5_afterParted_16 (by decide) ?_
      refine x_iand dX5_afterParted_17 ?_
      refine x_if_eq 37 dX5_afterParted_18 (by decide) (fun c2 => ?_) (fun c2 => ?_)
      · have h := x_pos c2 h
        exact w_X5_afterParted_b37 (fun x2' x3' x5' h => ih x2' x3' x5' h) _ _ _ h
      · have h := x_neg c2 h
        refine x_lload_n dX5_afterParted_21 1 rfl rfl ?_
        refine x_iload dX5_afterParted_22 2 rfl ?_
        refine x_iconst 0 dX5_afterParted_24 (by decide) ?_
        refine x_cS (As := [.long x3, .int x5, .int (0 : Int32)]) (wc := ([] : va_W)) (w1 := ([] : va_W)) (pre := []) (post := ([] : va_W)) (rest := []) (st1 := [.long (M_X5_afterStrain x3 x5 (0 : Int32))]) (ws1 := ([] : va_W)) dX5_afterParted_25 (c_X5_afterStrain rfl) pk_X5_afterStrain ml_X5_33 rfl rfl rfl rfl rfl rfl rfl ?_
        refine x_lconst 1 dX5_afterParted_28 (by decide) ?_
        refine x_bipush 30 dX5_afterParted_29 (by decide) ?_
        refine x_iload dX5_afterParted_31 2 rfl ?_
        refine x_iadd dX5_afterParted_33 ?_
        refine x_lshl dX5_afterParted_34 ?_
        refine x_lor dX5_afterParted_35 ?_
        refine x_lstore_n [(3, .long ((M_X5_afterStrain x3 x5 (0 : Int32)) ||| ((1 : Int64) <<< (((30 : Int32) + x5).toInt64 &&& (63 : Int64))))), (2, .int x2), (5, .int x5)] dX5_afterParted_36 rfl (by decide) rfl ?_
        refine x_lv [1, 0, 2] rfl ?_
        exact w_X5_afterParted_b37 (fun x2' x3' x5' h => ih x2' x3' x5' h) _ _ _ h
def M_X5_afterParted (x0 : Int64) (x2 : Int32) : Option (Int64) :=
  M_X5_afterParted_b5 x_fuel x2 x0 (0 : Int32)
set_option maxHeartbeats 4000000 in
set_option maxRecDepth 100000 in
theorem c_X5_afterParted {G : x_G} {l : Launch} {x0 : Int64} {x2 : Int32} {res : Int64} (h : M_X5_afterParted x0 x2 = some res) : x_M G l yX5_afterParted cX5_afterParted 6 (some .long) (1) 0 0 [.long x0, .int x2] ([] : va_W) (x_is (some (.long res)) ([] : va_W)) := by
  unfold M_X5_afterParted at h
  refine x_enter (ini := false) (by decide) rfl (by decide) rfl (Nat.le_of_ble_eq_true rfl) ?_
  refine x_lload_n dX5_afterParted_0 0 rfl rfl ?_
  refine x_lstore_n [(3, .long x0), (0, .long x0), (2, .int x2)] dX5_afterParted_1 rfl (by decide) rfl ?_
  refine x_iconst 0 dX5_afterParted_2 (by decide) ?_
  refine x_istore [(5, .int (0 : Int32)), (3, .long x0), (0, .long x0), (2, .int x2)] dX5_afterParted_3 (by decide) rfl ?_
  refine x_lv [3, 1, 0] rfl ?_
  exact w_X5_afterParted_b5  _ _ _ _ h
theorem pk_X5_allStrains : x_ps yX5_allStrains cX5_allStrains 4 (some .int) 1 := ⟨⟨co_X5_allStrains, ni_X5, by decide, by decide +kernel⟩, sm_X5_allStrains⟩
def M_X5_allStrains_b4 : Nat → Int64 → Int32 → Int32 → Option (Int32)
  | 0, _, _, _ => none
  | n + 1, x0, x2, x3 =>
    if (6 : Int32) ≤ x3 then
    (some (x2))
    else
    (M_X5_allStrains_b4 n x0 (x2 + (M_X5_strain x0 x3)) (x3 + (1 : Int32)))
set_option maxHeartbeats 4000000 in
set_option maxRecDepth 100000 in
theorem w_X5_allStrains_b4 {G : x_G} {l : Launch} {res : Int32} : ∀ (n : Nat) (x0 : Int64) (x2 : Int32) (x3 : Int32), M_X5_allStrains_b4 n x0 x2 x3 = some res → X G l RX5 cX5_allStrains 4 (x_R 1 0 0) (x_Cm G (some .int) false (x_is (some (.int res)) ([] : va_W)) 0 0) 0 0 4 [(0, .long x0), (2, .int x2), (3, .int x3)] [] ([] : va_W) := by
  intro n
  induction n with
  | zero =>
    intro _ _ _ h
    cases h
  | succ n ih =>
    intro x0 x2 x3 h
    rw [M_X5_allStrains_b4] at h
    refine x_iload_n dX5_allStrains_4 2 rfl rfl ?_
    refine x_bipush 6 dX5_allStrains_5 (by decide) ?_
    refine x_icmp_ge 24 dX5_allStrains_7 (by decide) (fun c1 => ?_) (fun c1 => ?_)
    · have h := x_pos c1 h
      refine x_iload_n dX5_allStrains_24 1 rfl rfl ?_
      cases h
      exact x_ireturn dX5_allStrains_25 rfl (x_is.rf _ _)
    · have h := x_neg c1 h
      refine x_iload_n dX5_allStrains_10 1 rfl rfl ?_
      refine x_lload_n dX5_allStrains_11 0 rfl rfl ?_
      refine x_iload_n dX5_allStrains_12 2 rfl rfl ?_
      refine x_cS (As := [.long x0, .int x3]) (wc := ([] : va_W)) (w1 := ([] : va_W)) (pre := []) (post := ([] : va_W)) (rest := [.int x2]) (st1 := [.int (M_X5_strain x0 x3), .int x2]) (ws1 := ([] : va_W)) dX5_allStrains_13 (c_X5_strain rfl) pk_X5_strain ml_X5_25 rfl rfl rfl rfl rfl rfl rfl ?_
      refine x_iadd dX5_allStrains_16 ?_
      refine x_istore_n [(2, .int (x2 + (M_X5_strain x0 x3))), (0, .long x0), (3, .int x3)] dX5_allStrains_17 rfl (by decide) rfl ?_
      refine x_iinc (j := 2) (1 : Int32) [(3, .int (x3 + (1 : Int32))), (2, .int (x2 + (M_X5_strain x0 x3))), (0, .long x0)] dX5_allStrains_18 (by decide) rfl (by decide) rfl ?_
      refine x_goto 4 dX5_allStrains_21 (by decide) ?_
      refine x_lv [2, 1, 0] rfl ?_
      exact ih _ _ _ h
def M_X5_allStrains (x0 : Int64) : Option (Int32) :=
  M_X5_allStrains_b4 x_fuel x0 (0 : Int32) (0 : Int32)
set_option maxHeartbeats 4000000 in
set_option maxRecDepth 100000 in
theorem c_X5_allStrains {G : x_G} {l : Launch} {x0 : Int64} {res : Int32} (h : M_X5_allStrains x0 = some res) : x_M G l yX5_allStrains cX5_allStrains 4 (some .int) (1) 0 0 [.long x0] ([] : va_W) (x_is (some (.int res)) ([] : va_W)) := by
  unfold M_X5_allStrains at h
  refine x_enter (ini := false) (by decide) rfl (by decide) rfl (Nat.le_of_ble_eq_true rfl) ?_
  refine x_iconst 0 dX5_allStrains_0 (by decide) ?_
  refine x_istore_n [(2, .int (0 : Int32)), (0, .long x0)] dX5_allStrains_1 rfl (by decide) rfl ?_
  refine x_iconst 0 dX5_allStrains_2 (by decide) ?_
  refine x_istore_n [(3, .int (0 : Int32)), (2, .int (0 : Int32)), (0, .long x0)] dX5_allStrains_3 rfl (by decide) rfl ?_
  refine x_lv [2, 1, 0] rfl ?_
  exact w_X5_allStrains_b4  _ _ _ _ h
theorem pk_J6_numberOfTrailingZeros_0f7a4 : x_ps yJ6_numberOfTrailingZeros_0f7a4 cJ6_numberOfTrailingZeros_0f7a4 2 (some .int) 1 := ⟨⟨co_J6_numberOfTrailingZeros_0f7a4, ni_J6, by decide, by decide +kernel⟩, sm_J6_numberOfTrailingZeros_0f7a4⟩
def M_J6_numberOfTrailingZeros_0f7a4_b74 (x0 : Int32) (x1 : Int32) : Int32 :=
  (x1 + (x0.toUInt32 >>> ((1 : Int32).toUInt32 &&& Int32.toUInt32 31)).toInt32)
set_option maxHeartbeats 4000000 in
set_option maxRecDepth 100000 in
theorem w_J6_numberOfTrailingZeros_0f7a4_b74 {G : x_G} {l : Launch} {res : Int32} (x0 : Int32) (x1 : Int32) (h : M_J6_numberOfTrailingZeros_0f7a4_b74 x0 x1 = res) : X G l RJ6 cJ6_numberOfTrailingZeros_0f7a4 2 (x_R 0 0 0) (x_Cm G (some .int) false (x_is (some (.int res)) ([] : va_W)) 0 0) 0 0 74 [(0, .int x0), (1, .int x1)] [] ([] : va_W) := by
  unfold M_J6_numberOfTrailingZeros_0f7a4_b74 at h
  refine x_iload_n dJ6_numberOfTrailingZeros_0f7a4_74 1 rfl rfl ?_
  refine x_iload_n dJ6_numberOfTrailingZeros_0f7a4_75 0 rfl rfl ?_
  refine x_iconst 1 dJ6_numberOfTrailingZeros_0f7a4_76 (by decide) ?_
  refine x_iushr dJ6_numberOfTrailingZeros_0f7a4_77 ?_
  refine x_iadd dJ6_numberOfTrailingZeros_0f7a4_78 ?_
  subst h
  exact x_ireturn dJ6_numberOfTrailingZeros_0f7a4_79 rfl (x_is.rf _ _)
def M_J6_numberOfTrailingZeros_0f7a4_b62 (x0 : Int32) (x1 : Int32) : Int32 :=
  if x0 ≤ (4 : Int32) then
  (M_J6_numberOfTrailingZeros_0f7a4_b74 x0 x1)
  else
  (M_J6_numberOfTrailingZeros_0f7a4_b74 ((x0.toUInt32 >>> ((2 : Int32).toUInt32 &&& Int32.toUInt32 31)).toInt32) (x1 + (2 : Int32)))
set_option maxHeartbeats 4000000 in
set_option maxRecDepth 100000 in
theorem w_J6_numberOfTrailingZeros_0f7a4_b62 {G : x_G} {l : Launch} {res : Int32} (x0 : Int32) (x1 : Int32) (h : M_J6_numberOfTrailingZeros_0f7a4_b62 x0 x1 = res) : X G l RJ6 cJ6_numberOfTrailingZeros_0f7a4 2 (x_R 0 0 0) (x_Cm G (some .int) false (x_is (some (.int res)) ([] : va_W)) 0 0) 0 0 62 [(0, .int x0), (1, .int x1)] [] ([] : va_W) := by
  unfold M_J6_numberOfTrailingZeros_0f7a4_b62 at h
  refine x_iload_n dJ6_numberOfTrailingZeros_0f7a4_62 0 rfl rfl ?_
  refine x_iconst 4 dJ6_numberOfTrailingZeros_0f7a4_63 (by decide) ?_
  refine x_icmp_le 74 dJ6_numberOfTrailingZeros_0f7a4_64 (by decide) (fun c3 => ?_) (fun c3 => ?_)
  · have h := x_pos c3 h
    exact w_J6_numberOfTrailingZeros_0f7a4_b74  _ _ h
  · have h := x_neg c3 h
    refine x_iinc (j := 1) (2 : Int32) [(1, .int (x1 + (2 : Int32))), (0, .int x0)] dJ6_numberOfTrailingZeros_0f7a4_67 (by decide) rfl (by decide) rfl ?_
    refine x_iload_n dJ6_numberOfTrailingZeros_0f7a4_70 1 rfl rfl ?_
    refine x_iconst 2 dJ6_numberOfTrailingZeros_0f7a4_71 (by decide) ?_
    refine x_iushr dJ6_numberOfTrailingZeros_0f7a4_72 ?_
    refine x_istore_n [(0, .int ((x0.toUInt32 >>> ((2 : Int32).toUInt32 &&& Int32.toUInt32 31)).toInt32)), (1, .int (x1 + (2 : Int32)))] dJ6_numberOfTrailingZeros_0f7a4_73 rfl (by decide) rfl ?_
    exact w_J6_numberOfTrailingZeros_0f7a4_b74  _ _ h
def M_J6_numberOfTrailingZeros_0f7a4_b49 (x0 : Int32) (x1 : Int32) : Int32 :=
  if x0 ≤ (16 : Int32) then
  (M_J6_numberOfTrailingZeros_0f7a4_b62 x0 x1)
  else
  (M_J6_numberOfTrailingZeros_0f7a4_b62 ((x0.toUInt32 >>> ((4 : Int32).toUInt32 &&& Int32.toUInt32 31)).toInt32) (x1 + (4 : Int32)))
set_option maxHeartbeats 4000000 in
set_option maxRecDepth 100000 in
theorem w_J6_numberOfTrailingZeros_0f7a4_b49 {G : x_G} {l : Launch} {res : Int32} (x0 : Int32) (x1 : Int32) (h : M_J6_numberOfTrailingZeros_0f7a4_b49 x0 x1 = res) : X G l RJ6 cJ6_numberOfTrailingZeros_0f7a4 2 (x_R 0 0 0) (x_Cm G (some .int) false (x_is (some (.int res)) ([] : va_W)) 0 0) 0 0 49 [(0, .int x0), (1, .int x1)] [] ([] : va_W) := by
  unfold M_J6_numberOfTrailingZeros_0f7a4_b49 at h
  refine x_iload_n dJ6_numberOfTrailingZeros_0f7a4_49 0 rfl rfl ?_
  refine x_bipush 16 dJ6_numberOfTrailingZeros_0f7a4_50 (by decide) ?_
  refine x_icmp_le 62 dJ6_numberOfTrailingZeros_0f7a4_52 (by decide) (fun c2 => ?_) (fun c2 => ?_)
  · have h := x_pos c2 h
    exact w_J6_numberOfTrailingZeros_0f7a4_b62  _ _ h
  · have h := x_neg c2 h
    refine x_iinc (j := 1) (4 : Int32) [(1, .int (x1 + (4 : Int32))), (0, .int x0)] dJ6_numberOfTrailingZeros_0f7a4_55 (by decide) rfl (by decide) rfl ?_
    refine x_iload_n dJ6_numberOfTrailingZeros_0f7a4_58 1 rfl rfl ?_
    refine x_iconst 4 dJ6_numberOfTrailingZeros_0f7a4_59 (by decide) ?_
    refine x_iushr dJ6_numberOfTrailingZeros_0f7a4_60 ?_
    refine x_istore_n [(0, .int ((x0.toUInt32 >>> ((4 : Int32).toUInt32 &&& Int32.toUInt32 31)).toInt32)), (1, .int (x1 + (4 : Int32)))] dJ6_numberOfTrailingZeros_0f7a4_61 rfl (by decide) rfl ?_
    exact w_J6_numberOfTrailingZeros_0f7a4_b62  _ _ h
def M_J6_numberOfTrailingZeros_0f7a4_b34 (x0 : Int32) (x1 : Int32) : Int32 :=
  if x0 ≤ (256 : Int32) then
  (M_J6_numberOfTrailingZeros_0f7a4_b49 x0 x1)
  else
  (M_J6_numberOfTrailingZeros_0f7a4_b49 ((x0.toUInt32 >>> ((8 : Int32).toUInt32 &&& Int32.toUInt32 31)).toInt32) (x1 + (8 : Int32)))
set_option maxHeartbeats 4000000 in
set_option maxRecDepth 100000 in
theorem w_J6_numberOfTrailingZeros_0f7a4_b34 {G : x_G} {l : Launch} {res : Int32} (x0 : Int32) (x1 : Int32) (h : M_J6_numberOfTrailingZeros_0f7a4_b34 x0 x1 = res) : X G l RJ6 cJ6_numberOfTrailingZeros_0f7a4 2 (x_R 0 0 0) (x_Cm G (some .int) false (x_is (some (.int res)) ([] : va_W)) 0 0) 0 0 34 [(0, .int x0), (1, .int x1)] [] ([] : va_W) := by
  unfold M_J6_numberOfTrailingZeros_0f7a4_b34 at h
  refine x_iload_n dJ6_numberOfTrailingZeros_0f7a4_34 0 rfl rfl ?_
  refine x_sipush 256 dJ6_numberOfTrailingZeros_0f7a4_35 (by decide) ?_
  refine x_icmp_le 49 dJ6_numberOfTrailingZeros_0f7a4_38 (by decide) (fun c1 => ?_) (fun c1 => ?_)
  · have h := x_pos c1 h
    exact w_J6_numberOfTrailingZeros_0f7a4_b49  _ _ h
  · have h := x_neg c1 h
    refine x_iinc (j := 1) (8 : Int32) [(1, .int (x1 + (8 : Int32))), (0, .int x0)] dJ6_numberOfTrailingZeros_0f7a4_41 (by decide) rfl (by decide) rfl ?_
    refine x_iload_n dJ6_numberOfTrailingZeros_0f7a4_44 1 rfl rfl ?_
    refine x_bipush 8 dJ6_numberOfTrailingZeros_0f7a4_45 (by decide) ?_
    refine x_iushr dJ6_numberOfTrailingZeros_0f7a4_47 ?_
    refine x_istore_n [(0, .int ((x0.toUInt32 >>> ((8 : Int32).toUInt32 &&& Int32.toUInt32 31)).toInt32)), (1, .int (x1 + (8 : Int32)))] dJ6_numberOfTrailingZeros_0f7a4_48 rfl (by decide) rfl ?_
    exact w_J6_numberOfTrailingZeros_0f7a4_b49  _ _ h
def M_J6_numberOfTrailingZeros_0f7a4 (x0 : Int32) : Int32 :=
  if 0 < ((x0 ^^^ (-1 : Int32)) &&& (x0 - (1 : Int32))) then
  (if ((x0 ^^^ (-1 : Int32)) &&& (x0 - (1 : Int32))) ≤ (65536 : Int32) then
  (M_J6_numberOfTrailingZeros_0f7a4_b34 ((x0 ^^^ (-1 : Int32)) &&& (x0 - (1 : Int32))) (1 : Int32))
  else
  (M_J6_numberOfTrailingZeros_0f7a4_b34 ((((x0 ^^^ (-1 : Int32)) &&& (x0 - (1 : Int32))).toUInt32 >>> ((16 : Int32).toUInt32 &&& Int32.toUInt32 31)).toInt32) ((1 : Int32) + (16 : Int32))))
  else
  ((((x0 ^^^ (-1 : Int32)) &&& (x0 - (1 : Int32))) &&& (32 : Int32)))
set_option maxHeartbeats 4000000 in
set_option maxRecDepth 100000 in
theorem c_J6_numberOfTrailingZeros_0f7a4 {G : x_G} {l : Launch} {x0 : Int32} {res : Int32} (h : M_J6_numberOfTrailingZeros_0f7a4 x0 = res) : x_M G l yJ6_numberOfTrailingZeros_0f7a4 cJ6_numberOfTrailingZeros_0f7a4 2 (some .int) (0) 0 0 [.int x0] ([] : va_W) (x_is (some (.int res)) ([] : va_W)) := by
  unfold M_J6_numberOfTrailingZeros_0f7a4 at h
  refine x_enter (ini := false) (by decide +kernel) rfl (by decide) rfl (Nat.le_of_ble_eq_true rfl) ?_
  refine x_iload_n dJ6_numberOfTrailingZeros_0f7a4_0 0 rfl rfl ?_
  refine x_iconst (-1 : Int32) dJ6_numberOfTrailingZeros_0f7a4_1 (by decide) ?_
  refine x_ixor dJ6_numberOfTrailingZeros_0f7a4_2 ?_
  refine x_iload_n dJ6_numberOfTrailingZeros_0f7a4_3 0 rfl rfl ?_
  refine x_iconst 1 dJ6_numberOfTrailingZeros_0f7a4_4 (by decide) ?_
  refine x_isub dJ6_numberOfTrailingZeros_0f7a4_5 ?_
  refine x_iand dJ6_numberOfTrailingZeros_0f7a4_6 ?_
  refine x_istore_n [(0, .int ((x0 ^^^ (-1 : Int32)) &&& (x0 - (1 : Int32))))] dJ6_numberOfTrailingZeros_0f7a4_7 rfl (by decide) rfl ?_
  refine x_iload_n dJ6_numberOfTrailingZeros_0f7a4_8 0 rfl rfl ?_
  refine x_if_gt 17 dJ6_numberOfTrailingZeros_0f7a4_9 (by decide) (fun c4 => ?_) (fun c4 => ?_)
  · have h := x_pos c4 h
    refine x_iconst 1 dJ6_numberOfTrailingZeros_0f7a4_17 (by decide) ?_
    refine x_istore_n [(1, .int (1 : Int32)), (0, .int ((x0 ^^^ (-1 : Int32)) &&& (x0 - (1 : Int32))))] dJ6_numberOfTrailingZeros_0f7a4_18 rfl (by decide) rfl ?_
    refine x_iload_n dJ6_numberOfTrailingZeros_0f7a4_19 1 rfl rfl ?_
    refine x_ldcw dJ6_numberOfTrailingZeros_0f7a4_20 kc_J6_264 ?_
    refine x_icmp_le 34 dJ6_numberOfTrailingZeros_0f7a4_23 (by decide) (fun c5 => ?_) (fun c5 => ?_)
    · have h := x_pos c5 h
      refine x_lv [1, 0] rfl ?_
      exact w_J6_numberOfTrailingZeros_0f7a4_b34  _ _ h
    · have h := x_neg c5 h
      refine x_iinc (j := 0) (16 : Int32) [(1, .int ((1 : Int32) + (16 : Int32))), (0, .int ((x0 ^^^ (-1 : Int32)) &&& (x0 - (1 : Int32))))] dJ6_numberOfTrailingZeros_0f7a4_26 (by decide) rfl (by decide) rfl ?_
      refine x_iload_n dJ6_numberOfTrailingZeros_0f7a4_29 1 rfl rfl ?_
      refine x_bipush 16 dJ6_numberOfTrailingZeros_0f7a4_30 (by decide) ?_
      refine x_iushr dJ6_numberOfTrailingZeros_0f7a4_32 ?_
      refine x_istore_n [(0, .int ((((x0 ^^^ (-1 : Int32)) &&& (x0 - (1 : Int32))).toUInt32 >>> ((16 : Int32).toUInt32 &&& Int32.toUInt32 31)).toInt32)), (1, .int ((1 : Int32) + (16 : Int32)))] dJ6_numberOfTrailingZeros_0f7a4_33 rfl (by decide) rfl ?_
      exact w_J6_numberOfTrailingZeros_0f7a4_b34  _ _ h
  · have h := x_neg c4 h
    refine x_iload_n dJ6_numberOfTrailingZeros_0f7a4_12 0 rfl rfl ?_
    refine x_bipush 32 dJ6_numberOfTrailingZeros_0f7a4_13 (by decide) ?_
    refine x_iand dJ6_numberOfTrailingZeros_0f7a4_15 ?_
    subst h
    exact x_ireturn dJ6_numberOfTrailingZeros_0f7a4_16 rfl (x_is.rf _ _)
